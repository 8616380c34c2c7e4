set_option maxHeartbeats 4000000 in
set_option maxRecDepth 100000 in
theorem c_X9_bit {κ : xb_k} {q : Nat → Nat} {mth : Int32} {mn : Int32} {mib : Int32} {mpa : Int32} {mwi : Int32} {mch : Int32} {mst : Int32} {msz : Int32} {mns : Int32} {mld : Int32} {mps : Int32} {mbb : Int32} {mno : (Nat → Int32)} {mpk : (Nat → Int32)} {mtu : (Nat → Int32)} {mfo : (Nat → Int32)} {mbi : (Nat → Int32)} {mwr : (Nat → Int32)} {mus : (Nat → Int32)} {mnu : (Nat → Int32)} {mli : (Nat → Int32)} {mot : (Nat → Int32)} {mbl : (Nat → Int32)} {mki : (Nat → Int32)} {mfr : (Nat → Int32)} {mde : (Nat → Int32)} {mbe : (Nat → Int32)} {mow : (Nat → Int32)} {mco : (Nat → Int32)} {mpt : (Nat → Int32)} {mle : (Nat → Int32)} {mpl : (Nat → Int32)} {mit : (Nat → Int32)} {mro : (Nat → Int32)} {maw : (Nat → Int32)} {x1 : Int32}  {o : Int32 × Int32} (hF : F_X9_bit x1 mth mib msz mbi = some o) : Met κ.1 yX9_bit [Cond.code yX9_bit cX9_bit 2 (some .int)] { frames := 1, cells := 0, slots := 0, locals := 25 } (xb_P κ [.ref (q 0), .int x1] (mw κ q mth mn mib mpa mwi mch mst msz mns mld mps mbb mno mpk mtu mfo mbi mwr mus mnu mli mot mbl mki mfr mde mbe mow mco mpt mle mpl mit mro maw)) (xb_Qi κ o.1 (mw κ q o.2 mn mib mpa mwi mch mst msz mns mld mps mbb mno mpk mtu mfo mbi mwr mus mnu mli mot mbl mki mfr mde mbe mow mco mpt mle mpl mit mro maw)) 0 0 κ.2.2.1 := by
  refine x_enter (own := RX9) (lv0 := [(0, .ref (q 0)), (1, .int x1)]) (by decide) rfl rfl rfl (fun Γ C E => ?_)
  unfold F_X9_bit at hF
  refine x_aload_n C dX9_bit_0 0 rfl ?_
  refine x_iconst (v := 0) C dX9_bit_1 (by decide) ?_
  refine pf_X9_1 (ws2 := (mw κ q (0 : Int32) mn mib mpa mwi mch mst msz mns mld mps mbb mno mpk mtu mfo mbi mwr mus mnu mli mot mbl mki mfr mde mbe mow mco mpt mle mpl mit mro maw)) C 0 rfl dX9_bit_2 rfl rfl ?_
  refine x_aload_n C dX9_bit_5 0 rfl ?_
  refine gf_X9_100 C 0 rfl rfl dX9_bit_6 ?_
  refine x_if_eq (tgt := 37) C dX9_bit_9 (by decide) (fun hc => ?_) (fun hc => ?_)
  · replace hF := ifp hc hF
    refine x_iconst (v := (-1)) C dX9_bit_37 (by decide) ?_
    cases hF
    exact x_iret C E dX9_bit_38
  · replace hF := ifn hc hF
    refine x_iload_n C dX9_bit_12 1 rfl ?_
    refine x_i2l C dX9_bit_13 ?_
    refine x_lconst (v := 0) C dX9_bit_14 (by decide) ?_
    refine x_aload_n C dX9_bit_15 0 rfl ?_
    refine gf_X9_122 C 0 rfl rfl dX9_bit_16 ?_
    refine x_iconst (v := 1) C dX9_bit_19 (by decide) ?_
    refine x_isub C dX9_bit_20 ?_
    refine x_i2l C dX9_bit_21 ?_
    obtain ⟨o1, h2, hF⟩ := bd_s hF
    refine x_callSi (st := []) C (c_X9_in h2) xm_X9_in ml_X9_96 rfl rfl rfl rfl dX9_bit_22 ⟨rfl, rfl⟩ ?_
    refine x_if_eq (tgt := 37) C dX9_bit_25 (by decide) (fun hc => ?_) (fun hc => ?_)
    · replace hF := ifp hc hF
      refine x_iconst (v := (-1)) C dX9_bit_37 (by decide) ?_
      cases hF
      exact x_iret C E dX9_bit_38
    · replace hF := ifn hc hF
      refine x_aload_n C dX9_bit_28 0 rfl ?_
      refine gf_X9_36 C 0 rfl rfl dX9_bit_29 ?_
      refine x_iload_n C dX9_bit_32 1 rfl ?_
      obtain ⟨b3, hF⟩ := ck_s hF
      refine x_iald C 5 rfl b3 dX9_bit_33 ?_
      refine x_goto (tgt := 38) C dX9_bit_34 (by decide) ?_
      cases hF
      exact x_iret C E dX9_bit_38
set_option maxHeartbeats 4000000 in
set_option maxRecDepth 100000 in
theorem c_X9_place {κ : xb_k} {q : Nat → Nat} {mth : Int32} {mn : Int32} {mib : Int32} {mpa : Int32} {mwi : Int32} {mch : Int32} {mst : Int32} {msz : Int32} {mns : Int32} {mld : Int32} {mps : Int32} {mbb : Int32} {mno : (Nat → Int32)} {mpk : (Nat → Int32)} {mtu : (Nat → Int32)} {mfo : (Nat → Int32)} {mbi : (Nat → Int32)} {mwr : (Nat → Int32)} {mus : (Nat → Int32)} {mnu : (Nat → Int32)} {mli : (Nat → Int32)} {mot : (Nat → Int32)} {mbl : (Nat → Int32)} {mki : (Nat → Int32)} {mfr : (Nat → Int32)} {mde : (Nat → Int32)} {mbe : (Nat → Int32)} {mow : (Nat → Int32)} {mco : (Nat → Int32)} {mpt : (Nat → Int32)} {mle : (Nat → Int32)} {mpl : (Nat → Int32)} {mit : (Nat → Int32)} {mro : (Nat → Int32)} {maw : (Nat → Int32)} {x1 : Int32}  {o : Int32 × Int32} (hF : F_X9_place x1 mth mib mn mps mbe = some o) : Met κ.1 yX9_place [Cond.code yX9_place cX9_place 2 (some .int)] { frames := 0, cells := 0, slots := 0, locals := 0 } (xb_P κ [.ref (q 0), .int x1] (mw κ q mth mn mib mpa mwi mch mst msz mns mld mps mbb mno mpk mtu mfo mbi mwr mus mnu mli mot mbl mki mfr mde mbe mow mco mpt mle mpl mit mro maw)) (xb_Qi κ o.1 (mw κ q o.2 mn mib mpa mwi mch mst msz mns mld mps mbb mno mpk mtu mfo mbi mwr mus mnu mli mot mbl mki mfr mde mbe mow mco mpt mle mpl mit mro maw)) 0 0 κ.2.2.1 := by
  refine x_enter (own := RX9) (lv0 := [(0, .ref (q 0)), (1, .int x1)]) (by decide) rfl rfl rfl (fun Γ C E => ?_)
  unfold F_X9_place at hF
  refine x_aload_n C dX9_place_0 0 rfl ?_
  refine x_iconst (v := 0) C dX9_place_1 (by decide) ?_
  refine pf_X9_1 (ws2 := (mw κ q (0 : Int32) mn mib mpa mwi mch mst msz mns mld mps mbb mno mpk mtu mfo mbi mwr mus mnu mli mot mbl mki mfr mde mbe mow mco mpt mle mpl mit mro maw)) C 0 rfl dX9_place_2 rfl rfl ?_
  refine x_aload_n C dX9_place_5 0 rfl ?_
  refine gf_X9_100 C 0 rfl rfl dX9_place_6 ?_
  refine x_if_eq (tgt := 45) C dX9_place_9 (by decide) (fun hc => ?_) (fun hc => ?_)
  · replace hF := ifp hc hF
    refine x_iconst (v := (-1)) C dX9_place_45 (by decide) ?_
    cases hF
    exact x_iret C E dX9_place_46
  · replace hF := ifn hc hF
    refine x_iload_n C dX9_place_12 1 rfl ?_
    refine x_if_lt (tgt := 45) C dX9_place_13 (by decide) (fun hc => ?_) (fun hc => ?_)
    · replace hF := ifp hc hF
      refine x_iconst (v := (-1)) C dX9_place_45 (by decide) ?_
      cases hF
      exact x_iret C E dX9_place_46
    · replace hF := ifn hc hF
      refine x_iload_n C dX9_place_16 1 rfl ?_
      refine x_aload_n C dX9_place_17 0 rfl ?_
      refine gf_X9_93 C 0 rfl rfl dX9_place_18 ?_
      refine x_iconst (v := 1) C dX9_place_21 (by decide) ?_
      refine x_isub C dX9_place_22 ?_
      refine x_aload_n C dX9_place_23 0 rfl ?_
      refine gf_X9_211 C 0 rfl rfl dX9_place_24 ?_
      obtain ⟨b1, hF⟩ := ck_s hF
      refine x_idiv C dX9_place_27 (nz_ne b1) ?_
      refine x_icmp_gt (tgt := 45) C dX9_place_28 (by decide) (fun hc => ?_) (fun hc => ?_)
      · replace hF := ifp hc hF
        refine x_iconst (v := (-1)) C dX9_place_45 (by decide) ?_
        cases hF
        exact x_iret C E dX9_place_46
      · replace hF := ifn hc hF
        refine x_aload_n C dX9_place_31 0 rfl ?_
        refine gf_X9_66 C 0 rfl rfl dX9_place_32 ?_
        refine x_iload_n C dX9_place_35 1 rfl ?_
        refine x_aload_n C dX9_place_36 0 rfl ?_
        refine gf_X9_211 C 0 rfl rfl dX9_place_37 ?_
        refine x_imul C dX9_place_40 ?_
        obtain ⟨b2, hF⟩ := ck_s hF
        refine x_iald C 15 rfl b2 dX9_place_41 ?_
        refine x_goto (tgt := 46) C dX9_place_42 (by decide) ?_
        cases hF
        exact x_iret C E dX9_place_46
set_option maxHeartbeats 4000000 in
set_option maxRecDepth 100000 in
theorem c_X9_bytes {κ : xb_k} {q : Nat → Nat} {mth : Int32} {mn : Int32} {mib : Int32} {mpa : Int32} {mwi : Int32} {mch : Int32} {mst : Int32} {msz : Int32} {mns : Int32} {mld : Int32} {mps : Int32} {mbb : Int32} {mno : (Nat → Int32)} {mpk : (Nat → Int32)} {mtu : (Nat → Int32)} {mfo : (Nat → Int32)} {mbi : (Nat → Int32)} {mwr : (Nat → Int32)} {mus : (Nat → Int32)} {mnu : (Nat → Int32)} {mli : (Nat → Int32)} {mot : (Nat → Int32)} {mbl : (Nat → Int32)} {mki : (Nat → Int32)} {mfr : (Nat → Int32)} {mde : (Nat → Int32)} {mbe : (Nat → Int32)} {mow : (Nat → Int32)} {mco : (Nat → Int32)} {mpt : (Nat → Int32)} {mle : (Nat → Int32)} {mpl : (Nat → Int32)} {mit : (Nat → Int32)} {mro : (Nat → Int32)} {maw : (Nat → Int32)}   {o : Int32} (hF : F_X9_bytes msz = some o) : Met κ.1 yX9_bytes [Cond.code yX9_bytes cX9_bytes 1 (some .int)] { frames := 0, cells := 0, slots := 0, locals := 0 } (xb_P κ [.ref (q 0)] (mw κ q mth mn mib mpa mwi mch mst msz mns mld mps mbb mno mpk mtu mfo mbi mwr mus mnu mli mot mbl mki mfr mde mbe mow mco mpt mle mpl mit mro maw)) (xb_Qi κ o (mw κ q mth mn mib mpa mwi mch mst msz mns mld mps mbb mno mpk mtu mfo mbi mwr mus mnu mli mot mbl mki mfr mde mbe mow mco mpt mle mpl mit mro maw)) 0 0 κ.2.2.1 := by
  refine x_enter (own := RX9) (lv0 := [(0, .ref (q 0))]) (by decide) rfl rfl rfl (fun Γ C E => ?_)
  unfold F_X9_bytes at hF
  refine x_aload_n C dX9_bytes_0 0 rfl ?_
  refine gf_X9_122 C 0 rfl rfl dX9_bytes_1 ?_
  refine x_bipush (v := 7) C dX9_bytes_4 (by decide) ?_
  refine x_iadd C dX9_bytes_6 ?_
  refine x_bipush (v := 8) C dX9_bytes_7 (by decide) ?_
  refine x_idiv C dX9_bytes_9 (by decide) ?_
  cases hF
  exact x_iret C E dX9_bytes_10
set_option maxHeartbeats 4000000 in
set_option maxRecDepth 100000 in
theorem w_X9_byteAt_L7 {κ : xb_k} {Γ : xb_X} {q : Nat → Nat} {mth : Int32} {mn : Int32} {mib : Int32} {mpa : Int32} {mwi : Int32} {mch : Int32} {mst : Int32} {msz : Int32} {mns : Int32} {mld : Int32} {mps : Int32} {mbb : Int32} {mno : (Nat → Int32)} {mpk : (Nat → Int32)} {mtu : (Nat → Int32)} {mfo : (Nat → Int32)} {mbi : (Nat → Int32)} {mwr : (Nat → Int32)} {mus : (Nat → Int32)} {mnu : (Nat → Int32)} {mli : (Nat → Int32)} {mot : (Nat → Int32)} {mbl : (Nat → Int32)} {mki : (Nat → Int32)} {mfr : (Nat → Int32)} {mde : (Nat → Int32)} {mbe : (Nat → Int32)} {mow : (Nat → Int32)} {mco : (Nat → Int32)} {mpt : (Nat → Int32)} {mle : (Nat → Int32)} {mpl : (Nat → Int32)} {mit : (Nat → Int32)} {mro : (Nat → Int32)} {maw : (Nat → Int32)} {x1 : Int32}  (C : xb_C κ Γ 4 cX9_byteAt RX9 { frames := 0, cells := 0, slots := 0, locals := 0 }) : ∀ (n : Nat) (x2 : Int32) (x3 : Int32) (o : Int32), F_X9_byteAt_L7 x1 mbi n x2 x3 = some o → xb_W κ Γ 4 0 0 35 [(2, .int o)] [] (mw κ q mth mn mib mpa mwi mch mst msz mns mld mps mbb mno mpk mtu mfo mbi mwr mus mnu mli mot mbl mki mfr mde mbe mow mco mpt mle mpl mit mro maw) → xb_W κ Γ 4 0 0 7 [(0, .ref (q 0)), (1, .int x1), (2, .int x2), (3, .int x3)] [] (mw κ q mth mn mib mpa mwi mch mst msz mns mld mps mbb mno mpk mtu mfo mbi mwr mus mnu mli mot mbl mki mfr mde mbe mow mco mpt mle mpl mit mro maw) := by
  intro n
  induction n with
  | zero =>
    intro x2 x3 o hF K
    rw [F_X9_byteAt_L7] at hF
    cases hF
  | succ n ih =>
    intro x2 x3 o hF K
    rw [F_X9_byteAt_L7] at hF
    refine x_iload_n C dX9_byteAt_7 3 rfl ?_
    refine x_bipush (v := 8) C dX9_byteAt_8 (by decide) ?_
    refine x_iload_n C dX9_byteAt_10 1 rfl ?_
    refine x_imul C dX9_byteAt_11 ?_
    refine x_bipush (v := 8) C dX9_byteAt_12 (by decide) ?_
    refine x_iadd C dX9_byteAt_14 ?_
    refine x_icmp_ge (tgt := 35) C dX9_byteAt_15 (by decide) (fun hc => ?_) (fun hc => ?_)
    · replace hF := ifp hc hF
      cases hF
      exact x_sub [2] rfl K
    · replace hF := ifn hc hF
      refine x_iconst (v := 2) C dX9_byteAt_18 (by decide) ?_
      refine x_iload_n C dX9_byteAt_19 2 rfl ?_
      refine x_imul C dX9_byteAt_20 ?_
      refine x_aload_n C dX9_byteAt_21 0 rfl ?_
      refine gf_X9_36 C 0 rfl rfl dX9_byteAt_22 ?_
      refine x_iload_n C dX9_byteAt_25 3 rfl ?_
      obtain ⟨b1, hF⟩ := ck_s hF
      refine x_iald C 5 rfl b1 dX9_byteAt_26 ?_
      refine x_iadd C dX9_byteAt_27 ?_
      refine x_istore_n (lv2 := [(2, .int (((2 : Int32) * x2) + (mbi x3.toNatClampNeg))), (0, .ref (q 0)), (1, .int x1), (3, .int x3)]) C dX9_byteAt_28 rfl (by decide) rfl ?_
      refine x_iinc (v := x3 + 1) (lv2 := [(3, .int (x3 + 1)), (2, .int (((2 : Int32) * x2) + (mbi x3.toNatClampNeg))), (0, .ref (q 0)), (1, .int x1)]) C dX9_byteAt_29 3 rfl rfl (by decide) rfl ?_
      refine x_goto (tgt := 7) C dX9_byteAt_32 (by decide) ?_
      exact x_sub [2, 3, 1, 0] rfl (ih _ _ _ hF K)
set_option maxHeartbeats 4000000 in
set_option maxRecDepth 100000 in
theorem c_X9_byteAt {κ : xb_k} {q : Nat → Nat} {mth : Int32} {mn : Int32} {mib : Int32} {mpa : Int32} {mwi : Int32} {mch : Int32} {mst : Int32} {msz : Int32} {mns : Int32} {mld : Int32} {mps : Int32} {mbb : Int32} {mno : (Nat → Int32)} {mpk : (Nat → Int32)} {mtu : (Nat → Int32)} {mfo : (Nat → Int32)} {mbi : (Nat → Int32)} {mwr : (Nat → Int32)} {mus : (Nat → Int32)} {mnu : (Nat → Int32)} {mli : (Nat → Int32)} {mot : (Nat → Int32)} {mbl : (Nat → Int32)} {mki : (Nat → Int32)} {mfr : (Nat → Int32)} {mde : (Nat → Int32)} {mbe : (Nat → Int32)} {mow : (Nat → Int32)} {mco : (Nat → Int32)} {mpt : (Nat → Int32)} {mle : (Nat → Int32)} {mpl : (Nat → Int32)} {mit : (Nat → Int32)} {mro : (Nat → Int32)} {maw : (Nat → Int32)} {x1 : Int32} {fu : Nat} {o : Int32} (hF : F_X9_byteAt fu x1 mbi = some o) : Met κ.1 yX9_byteAt [Cond.code yX9_byteAt cX9_byteAt 4 (some .int)] { frames := 0, cells := 0, slots := 0, locals := 0 } (xb_P κ [.ref (q 0), .int x1] (mw κ q mth mn mib mpa mwi mch mst msz mns mld mps mbb mno mpk mtu mfo mbi mwr mus mnu mli mot mbl mki mfr mde mbe mow mco mpt mle mpl mit mro maw)) (xb_Qi κ o (mw κ q mth mn mib mpa mwi mch mst msz mns mld mps mbb mno mpk mtu mfo mbi mwr mus mnu mli mot mbl mki mfr mde mbe mow mco mpt mle mpl mit mro maw)) 0 0 κ.2.2.1 := by
  refine x_enter (own := RX9) (lv0 := [(0, .ref (q 0)), (1, .int x1)]) (by decide) rfl rfl rfl (fun Γ C E => ?_)
  unfold F_X9_byteAt at hF
  refine x_iconst (v := 0) C dX9_byteAt_0 (by decide) ?_
  refine x_istore_n (lv2 := [(2, .int (0 : Int32)), (0, .ref (q 0)), (1, .int x1)]) C dX9_byteAt_1 rfl (by decide) rfl ?_
  refine x_bipush (v := 8) C dX9_byteAt_2 (by decide) ?_
  refine x_iload_n C dX9_byteAt_4 2 rfl ?_
  refine x_imul C dX9_byteAt_5 ?_
  refine x_istore_n (lv2 := [(3, .int ((8 : Int32) * x1)), (2, .int (0 : Int32)), (0, .ref (q 0)), (1, .int x1)]) C dX9_byteAt_6 rfl (by decide) rfl ?_
  obtain ⟨o2, h3, hF⟩ := bd_s hF
  refine x_sub [2, 3, 1, 0] rfl (w_X9_byteAt_L7 C fu _ _ _ h3 ?_)
  refine x_iload_n C dX9_byteAt_35 0 rfl ?_
  cases hF
  exact x_iret C E dX9_byteAt_36
set_option maxHeartbeats 4000000 in
set_option maxRecDepth 100000 in
theorem w_X9_sum_L20 {κ : xb_k} {Γ : xb_X} {q : Nat → Nat} {mth : Int32} {mn : Int32} {mib : Int32} {mpa : Int32} {mwi : Int32} {mch : Int32} {mst : Int32} {msz : Int32} {mns : Int32} {mld : Int32} {mps : Int32} {mbb : Int32} {mno : (Nat → Int32)} {mpk : (Nat → Int32)} {mtu : (Nat → Int32)} {mfo : (Nat → Int32)} {mbi : (Nat → Int32)} {mwr : (Nat → Int32)} {mus : (Nat → Int32)} {mnu : (Nat → Int32)} {mli : (Nat → Int32)} {mot : (Nat → Int32)} {mbl : (Nat → Int32)} {mki : (Nat → Int32)} {mfr : (Nat → Int32)} {mde : (Nat → Int32)} {mbe : (Nat → Int32)} {mow : (Nat → Int32)} {mco : (Nat → Int32)} {mpt : (Nat → Int32)} {mle : (Nat → Int32)} {mpl : (Nat → Int32)} {mit : (Nat → Int32)} {mro : (Nat → Int32)} {maw : (Nat → Int32)}  {fu : Nat} (C : xb_C κ Γ 4 cX9_sum RX9 { frames := 1, cells := 0, slots := 0, locals := 23 }) : ∀ (n : Nat) (x1 : Int64) (x3 : Int32) (o : Int64), F_X9_sum_L20 fu msz mbi n x1 x3 = some o → xb_W κ Γ 4 0 0 47 [(1, .long o)] [] (mw κ q mth mn mib mpa mwi mch mst msz mns mld mps mbb mno mpk mtu mfo mbi mwr mus mnu mli mot mbl mki mfr mde mbe mow mco mpt mle mpl mit mro maw) → xb_W κ Γ 4 0 0 20 [(0, .ref (q 0)), (1, .long x1), (3, .int x3)] [] (mw κ q mth mn mib mpa mwi mch mst msz mns mld mps mbb mno mpk mtu mfo mbi mwr mus mnu mli mot mbl mki mfr mde mbe mow mco mpt mle mpl mit mro maw) := by
  intro n
  induction n with
  | zero =>
    intro x1 x3 o hF K
    rw [F_X9_sum_L20] at hF
    cases hF
  | succ n ih =>
    intro x1 x3 o hF K
    rw [F_X9_sum_L20] at hF
    refine x_iload_n C dX9_sum_20 2 rfl ?_
    refine x_aload_n C dX9_sum_21 0 rfl ?_
    obtain ⟨o1, h2, hF⟩ := bd_s hF
    refine x_callVi (st := [.int x3]) C (c_X9_bytes h2) xm_X9_bytes ml_X9_232 0 rfl rfl rfl rfl rfl rfl dX9_sum_22 ⟨rfl, rfl⟩ ?_
    refine x_icmp_ge (tgt := 47) C dX9_sum_25 (by decide) (fun hc => ?_) (fun hc => ?_)
    · replace hF := ifp hc hF
      cases hF
      exact x_sub [1] rfl K
    · replace hF := ifn hc hF
      refine x_ldc2 C dX9_sum_28 kl_X9_235 ?_
      refine x_lload_n C dX9_sum_31 1 rfl ?_
      refine x_lmul C dX9_sum_32 ?_
      refine x_aload_n C dX9_sum_33 0 rfl ?_
      refine x_iload_n C dX9_sum_34 2 rfl ?_
      obtain ⟨o3, h4, hF⟩ := bd_s hF
      refine x_callVi (st := [.long ((33 : Int64) * x1)]) C (c_X9_byteAt h4) xm_X9_byteAt ml_X9_237 0 rfl rfl rfl rfl rfl rfl dX9_sum_35 ⟨rfl, rfl⟩ ?_
      refine x_i2l C dX9_sum_38 ?_
      refine x_ladd C dX9_sum_39 ?_
      refine x_lstore_n (lv2 := [(1, .long (((33 : Int64) * x1) + o3.toInt64)), (0, .ref (q 0)), (3, .int x3)]) C dX9_sum_40 rfl (by decide) rfl ?_
      refine x_iinc (v := x3 + 1) (lv2 := [(3, .int (x3 + 1)), (1, .long (((33 : Int64) * x1) + o3.toInt64)), (0, .ref (q 0))]) C dX9_sum_41 2 rfl rfl (by decide) rfl ?_
      refine x_goto (tgt := 20) C dX9_sum_44 (by decide) ?_
      exact x_sub [2, 1, 0] rfl (ih _ _ _ hF K)
set_option maxHeartbeats 4000000 in
set_option maxRecDepth 100000 in
theorem c_X9_sum {κ : xb_k} {q : Nat → Nat} {mth : Int32} {mn : Int32} {mib : Int32} {mpa : Int32} {mwi : Int32} {mch : Int32} {mst : Int32} {msz : Int32} {mns : Int32} {mld : Int32} {mps : Int32} {mbb : Int32} {mno : (Nat → Int32)} {mpk : (Nat → Int32)} {mtu : (Nat → Int32)} {mfo : (Nat → Int32)} {mbi : (Nat → Int32)} {mwr : (Nat → Int32)} {mus : (Nat → Int32)} {mnu : (Nat → Int32)} {mli : (Nat → Int32)} {mot : (Nat → Int32)} {mbl : (Nat → Int32)} {mki : (Nat → Int32)} {mfr : (Nat → Int32)} {mde : (Nat → Int32)} {mbe : (Nat → Int32)} {mow : (Nat → Int32)} {mco : (Nat → Int32)} {mpt : (Nat → Int32)} {mle : (Nat → Int32)} {mpl : (Nat → Int32)} {mit : (Nat → Int32)} {mro : (Nat → Int32)} {maw : (Nat → Int32)}  {fu : Nat} {o : Int64 × Int32} (hF : F_X9_sum fu mth mib msz mbi = some o) : Met κ.1 yX9_sum [Cond.code yX9_sum cX9_sum 4 (some .long)] { frames := 1, cells := 0, slots := 0, locals := 23 } (xb_P κ [.ref (q 0)] (mw κ q mth mn mib mpa mwi mch mst msz mns mld mps mbb mno mpk mtu mfo mbi mwr mus mnu mli mot mbl mki mfr mde mbe mow mco mpt mle mpl mit mro maw)) (xb_Ql κ o.1 (mw κ q o.2 mn mib mpa mwi mch mst msz mns mld mps mbb mno mpk mtu mfo mbi mwr mus mnu mli mot mbl mki mfr mde mbe mow mco mpt mle mpl mit mro maw)) 0 0 κ.2.2.1 := by
  refine x_enter (own := RX9) (lv0 := [(0, .ref (q 0))]) (by decide) rfl rfl rfl (fun Γ C E => ?_)
  unfold F_X9_sum at hF
  refine x_aload_n C dX9_sum_0 0 rfl ?_
  refine x_iconst (v := 0) C dX9_sum_1 (by decide) ?_
  refine pf_X9_1 (ws2 := (mw κ q (0 : Int32) mn mib mpa mwi mch mst msz mns mld mps mbb mno mpk mtu mfo mbi mwr mus mnu mli mot mbl mki mfr mde mbe mow mco mpt mle mpl mit mro maw)) C 0 rfl dX9_sum_2 rfl rfl ?_
  refine x_aload_n C dX9_sum_5 0 rfl ?_
  refine gf_X9_100 C 0 rfl rfl dX9_sum_6 ?_
  refine x_if_ne (tgt := 16) C dX9_sum_9 (by decide) (fun hc => ?_) (fun hc => ?_)
  · replace hF := ifn hc hF
    refine x_lconst (v := 1) C dX9_sum_16 (by decide) ?_
    refine x_lstore_n (lv2 := [(1, .long (1 : Int64)), (0, .ref (q 0))]) C dX9_sum_17 rfl (by decide) rfl ?_
    refine x_iconst (v := 0) C dX9_sum_18 (by decide) ?_
    refine x_istore_n (lv2 := [(3, .int (0 : Int32)), (1, .long (1 : Int64)), (0, .ref (q 0))]) C dX9_sum_19 rfl (by decide) rfl ?_
    obtain ⟨o5, h6, hF⟩ := bd_s hF
    refine x_sub [2, 1, 0] rfl (w_X9_sum_L20 C fu _ _ _ h6 ?_)
    refine x_lload_n C dX9_sum_47 0 rfl ?_
    cases hF
    exact x_lret C E dX9_sum_48
  · replace hF := ifp hc hF
    refine x_ldc2 C dX9_sum_12 kl_X9_230 ?_
    cases hF
    exact x_lret C E dX9_sum_15
set_option maxHeartbeats 4000000 in
set_option maxRecDepth 100000 in
theorem w_X9_alter_L48 {κ : xb_k} {Γ : xb_X} {q : Nat → Nat} {mth : Int32} {mn : Int32} {mib : Int32} {mpa : Int32} {mwi : Int32} {mch : Int32} {mst : Int32} {msz : Int32} {mns : Int32} {mld : Int32} {mps : Int32} {mbb : Int32} {mno : (Nat → Int32)} {mpk : (Nat → Int32)} {mtu : (Nat → Int32)} {mfo : (Nat → Int32)} {mwr : (Nat → Int32)} {mus : (Nat → Int32)} {mnu : (Nat → Int32)} {mli : (Nat → Int32)} {mot : (Nat → Int32)} {mbl : (Nat → Int32)} {mki : (Nat → Int32)} {mfr : (Nat → Int32)} {mde : (Nat → Int32)} {mbe : (Nat → Int32)} {mow : (Nat → Int32)} {mco : (Nat → Int32)} {mpt : (Nat → Int32)} {mle : (Nat → Int32)} {mpl : (Nat → Int32)} {mit : (Nat → Int32)} {mro : (Nat → Int32)} {maw : (Nat → Int32)} {x1 : Int32} {x2 : Int32}  (C : xb_C κ Γ 4 cX9_alter RX9 { frames := 1, cells := 0, slots := 0, locals := 25 }) : ∀ (n : Nat) (x3 : Int32) (mbi : (Nat → Int32)) (o : (Nat → Int32)), F_X9_alter_L48 x1 x2 n x3 mbi = some o → xb_W κ Γ 4 0 0 82 [(0, .ref (q 0)), (1, .int x1)] [] (mw κ q mth mn mib mpa mwi mch mst msz mns mld mps mbb mno mpk mtu mfo o mwr mus mnu mli mot mbl mki mfr mde mbe mow mco mpt mle mpl mit mro maw) → xb_W κ Γ 4 0 0 48 [(0, .ref (q 0)), (1, .int x1), (2, .int x2), (3, .int x3)] [] (mw κ q mth mn mib mpa mwi mch mst msz mns mld mps mbb mno mpk mtu mfo mbi mwr mus mnu mli mot mbl mki mfr mde mbe mow mco mpt mle mpl mit mro maw) := by
  intro n
  induction n with
  | zero =>
    intro x3 mbi o hF K
    rw [F_X9_alter_L48] at hF
    cases hF
  | succ n ih =>
    intro x3 mbi o hF K
    rw [F_X9_alter_L48] at hF
    refine x_iload_n C dX9_alter_48 3 rfl ?_
    refine x_bipush (v := 8) C dX9_alter_49 (by decide) ?_
    refine x_icmp_ge (tgt := 82) C dX9_alter_51 (by decide) (fun hc => ?_) (fun hc => ?_)
    · replace hF := ifp hc hF
      cases hF
      exact x_sub [0, 1] rfl K
    · replace hF := ifn hc hF
      refine x_aload_n C dX9_alter_54 0 rfl ?_
      refine gf_X9_36 C 0 rfl rfl dX9_alter_55 ?_
      refine x_bipush (v := 8) C dX9_alter_58 (by decide) ?_
      refine x_iload_n C dX9_alter_60 1 rfl ?_
      refine x_imul C dX9_alter_61 ?_
      refine x_iload_n C dX9_alter_62 3 rfl ?_
      refine x_iadd C dX9_alter_63 ?_
      refine x_dup2 C dX9_alter_64 rfl rfl ?_
      obtain ⟨b7, hF⟩ := ck_s hF
      refine x_iald C 5 rfl b7 dX9_alter_65 ?_
      refine x_iload_n C dX9_alter_66 2 rfl ?_
      refine x_bipush (v := 7) C dX9_alter_67 (by decide) ?_
      refine x_iload_n C dX9_alter_69 3 rfl ?_
      refine x_isub C dX9_alter_70 ?_
      refine x_ishr C dX9_alter_71 ?_
      refine x_iconst (v := 1) C dX9_alter_72 (by decide) ?_
      refine x_iand C dX9_alter_73 ?_
      refine x_ixor C dX9_alter_74 ?_
      obtain ⟨b8, hF⟩ := ck_s hF
      refine x_iast (ws2 := (mw κ q mth mn mib mpa mwi mch mst msz mns mld mps mbb mno mpk mtu mfo (upd mbi (((8 : Int32) * x1) + x3).toNatClampNeg ((mbi (((8 : Int32) * x1) + x3).toNatClampNeg) ^^^ ((x2 >>> (((7 : Int32) - x3) &&& 31)) &&& (1 : Int32)))) mwr mus mnu mli mot mbl mki mfr mde mbe mow mco mpt mle mpl mit mro maw)) C 5 rfl b8 dX9_alter_75 rfl ?_
      refine x_iinc (v := x3 + 1) (lv2 := [(3, .int (x3 + 1)), (0, .ref (q 0)), (1, .int x1), (2, .int x2)]) C dX9_alter_76 3 rfl rfl (by decide) rfl ?_
      refine x_goto (tgt := 48) C dX9_alter_79 (by decide) ?_
      exact x_sub [1, 2, 3, 0] rfl (ih _ _ _ hF K)
set_option maxHeartbeats 4000000 in
set_option maxRecDepth 100000 in
theorem c_X9_alter {κ : xb_k} {q : Nat → Nat} {mth : Int32} {mn : Int32} {mib : Int32} {mpa : Int32} {mwi : Int32} {mch : Int32} {mst : Int32} {msz : Int32} {mns : Int32} {mld : Int32} {mps : Int32} {mbb : Int32} {mno : (Nat → Int32)} {mpk : (Nat → Int32)} {mtu : (Nat → Int32)} {mfo : (Nat → Int32)} {mbi : (Nat → Int32)} {mwr : (Nat → Int32)} {mus : (Nat → Int32)} {mnu : (Nat → Int32)} {mli : (Nat → Int32)} {mot : (Nat → Int32)} {mbl : (Nat → Int32)} {mki : (Nat → Int32)} {mfr : (Nat → Int32)} {mde : (Nat → Int32)} {mbe : (Nat → Int32)} {mow : (Nat → Int32)} {mco : (Nat → Int32)} {mpt : (Nat → Int32)} {mle : (Nat → Int32)} {mpl : (Nat → Int32)} {mit : (Nat → Int32)} {mro : (Nat → Int32)} {maw : (Nat → Int32)} {x1 : Int32} {x2 : Int32} {fu : Nat} {o : Int32 × Int32 × (Nat → Int32)} (hF : F_X9_alter fu x1 x2 mth mib msz mbi = some o) : Met κ.1 yX9_alter [Cond.code yX9_alter cX9_alter 4 (some .int)] { frames := 1, cells := 0, slots := 0, locals := 25 } (xb_P κ [.ref (q 0), .int x1, .int x2] (mw κ q mth mn mib mpa mwi mch mst msz mns mld mps mbb mno mpk mtu mfo mbi mwr mus mnu mli mot mbl mki mfr mde mbe mow mco mpt mle mpl mit mro maw)) (xb_Qi κ o.1 (mw κ q o.2.1 mn mib mpa mwi mch mst msz mns mld mps mbb mno mpk mtu mfo o.2.2 mwr mus mnu mli mot mbl mki mfr mde mbe mow mco mpt mle mpl mit mro maw)) 0 0 κ.2.2.1 := by
  refine x_enter (own := RX9) (lv0 := [(0, .ref (q 0)), (1, .int x1), (2, .int x2)]) (by decide) rfl rfl rfl (fun Γ C E => ?_)
  unfold F_X9_alter at hF
  refine x_aload_n C dX9_alter_0 0 rfl ?_
  refine x_iconst (v := 0) C dX9_alter_1 (by decide) ?_
  refine pf_X9_1 (ws2 := (mw κ q (0 : Int32) mn mib mpa mwi mch mst msz mns mld mps mbb mno mpk mtu mfo mbi mwr mus mnu mli mot mbl mki mfr mde mbe mow mco mpt mle mpl mit mro maw)) C 0 rfl dX9_alter_2 rfl rfl ?_
  refine x_aload_n C dX9_alter_5 0 rfl ?_
  refine gf_X9_100 C 0 rfl rfl dX9_alter_6 ?_
  refine x_if_ne (tgt := 15) C dX9_alter_9 (by decide) (fun hc => ?_) (fun hc => ?_)
  · replace hF := ifn hc hF
    refine x_iload_n C dX9_alter_15 1 rfl ?_
    refine x_i2l C dX9_alter_16 ?_
    refine x_lconst (v := 0) C dX9_alter_17 (by decide) ?_
    refine x_aload_n C dX9_alter_18 0 rfl ?_
    obtain ⟨o1, h2, hF⟩ := bd_s hF
    refine x_callVi (st := [.long (0 : Int64), .long x1.toInt64]) C (c_X9_bytes h2) xm_X9_bytes ml_X9_232 0 rfl rfl rfl rfl rfl rfl dX9_alter_19 ⟨rfl, rfl⟩ ?_
    refine x_iconst (v := 1) C dX9_alter_22 (by decide) ?_
    refine x_isub C dX9_alter_23 ?_
    refine x_i2l C dX9_alter_24 ?_
    obtain ⟨o3, h4, hF⟩ := bd_s hF
    refine x_callSi (st := []) C (c_X9_in h4) xm_X9_in ml_X9_96 rfl rfl rfl rfl dX9_alter_25 ⟨rfl, rfl⟩ ?_
    refine x_if_eq (tgt := 43) C dX9_alter_28 (by decide) (fun hc => ?_) (fun hc => ?_)
    · replace hF := ifp hc hF
      refine x_bipush (v := (-2)) C dX9_alter_43 (by decide) ?_
      cases hF
      exact x_iret C E dX9_alter_45
    · replace hF := ifn hc hF
      refine x_iload_n C dX9_alter_31 2 rfl ?_
      refine x_i2l C dX9_alter_32 ?_
      refine x_lconst (v := 1) C dX9_alter_33 (by decide) ?_
      refine x_ldc2 C dX9_alter_34 kl_X9_240 ?_
      obtain ⟨o5, h6, hF⟩ := bd_s hF
      refine x_callSi (st := []) C (c_X9_in h6) xm_X9_in ml_X9_96 rfl rfl rfl rfl dX9_alter_37 ⟨rfl, rfl⟩ ?_
      refine x_if_ne (tgt := 46) C dX9_alter_40 (by decide) (fun hc => ?_) (fun hc => ?_)
      · replace hF := ifn hc hF
        refine x_iconst (v := 0) C dX9_alter_46 (by decide) ?_
        refine x_istore_n (lv2 := [(3, .int (0 : Int32)), (0, .ref (q 0)), (1, .int x1), (2, .int x2)]) C dX9_alter_47 rfl (by decide) rfl ?_
        obtain ⟨o9, h10, hF⟩ := bd_s hF
        refine x_sub [1, 2, 3, 0] rfl (w_X9_alter_L48 C fu _ _ _ h10 ?_)
        refine x_aload_n C dX9_alter_82 0 rfl ?_
        refine x_iload_n C dX9_alter_83 1 rfl ?_
        obtain ⟨o11, h12, hF⟩ := bd_s hF
        refine x_callVi (st := []) C (c_X9_byteAt h12) xm_X9_byteAt ml_X9_237 0 rfl rfl rfl rfl rfl rfl dX9_alter_84 ⟨rfl, rfl⟩ ?_
        cases hF
        exact x_iret C E dX9_alter_87
      · replace hF := ifp hc hF
        refine x_bipush (v := (-2)) C dX9_alter_43 (by decide) ?_
        cases hF
        exact x_iret C E dX9_alter_45
  · replace hF := ifp hc hF
    refine x_bipush (v := (-3)) C dX9_alter_12 (by decide) ?_
    cases hF
    exact x_iret C E dX9_alter_14
set_option maxHeartbeats 4000000 in
set_option maxRecDepth 100000 in
theorem w_X9_judge_L30 {κ : xb_k} {Γ : xb_X} {q : Nat → Nat} {mth : Int32} {mn : Int32} {mib : Int32} {mpa : Int32} {mwi : Int32} {mch : Int32} {mst : Int32} {msz : Int32} {mns : Int32} {mld : Int32} {mps : Int32} {mbb : Int32} {mno : (Nat → Int32)} {mpk : (Nat → Int32)} {mtu : (Nat → Int32)} {mfo : (Nat → Int32)} {mbi : (Nat → Int32)} {mwr : (Nat → Int32)} {mus : (Nat → Int32)} {mnu : (Nat → Int32)} {mli : (Nat → Int32)} {mot : (Nat → Int32)} {mbl : (Nat → Int32)} {mki : (Nat → Int32)} {mfr : (Nat → Int32)} {mde : (Nat → Int32)} {mbe : (Nat → Int32)} {mow : (Nat → Int32)} {mco : (Nat → Int32)} {mpt : (Nat → Int32)} {mle : (Nat → Int32)} {mpl : (Nat → Int32)} {mit : (Nat → Int32)} {mro : (Nat → Int32)} {maw : (Nat → Int32)} {x2 : Int32}  (C : xb_C κ Γ 3 cX9_judge RX9 { frames := 1, cells := 0, slots := 0, locals := 20 }) : ∀ (n : Nat) (x1 : Int32) (o : Int32), F_X9_judge_L30 x2 mn mbe n x1 = some o → xb_W κ Γ 3 0 0 56 [(0, .ref (q 0)), (1, .int o), (2, .int x2)] [] (mw κ q mth mn mib mpa mwi mch mst msz mns mld mps mbb mno mpk mtu mfo mbi mwr mus mnu mli mot mbl mki mfr mde mbe mow mco mpt mle mpl mit mro maw) → xb_W κ Γ 3 0 0 30 [(0, .ref (q 0)), (1, .int x1), (2, .int x2)] [] (mw κ q mth mn mib mpa mwi mch mst msz mns mld mps mbb mno mpk mtu mfo mbi mwr mus mnu mli mot mbl mki mfr mde mbe mow mco mpt mle mpl mit mro maw) := by
  intro n
  induction n with
  | zero =>
    intro x1 o hF K
    rw [F_X9_judge_L30] at hF
    cases hF
  | succ n ih =>
    intro x1 o hF K
    rw [F_X9_judge_L30] at hF
    refine x_iload_n C dX9_judge_30 1 rfl ?_
    refine x_aload_n C dX9_judge_31 0 rfl ?_
    refine gf_X9_93 C 0 rfl rfl dX9_judge_32 ?_
    refine x_icmp_ge (tgt := 56) C dX9_judge_35 (by decide) (fun hc => ?_) (fun hc => ?_)
    · replace hF := ifp hc hF
      cases hF
      exact x_sub [0, 1, 2] rfl K
    · replace hF := ifn hc hF
      refine x_iload_n C dX9_judge_38 2 rfl ?_
      refine x_aload_n C dX9_judge_39 0 rfl ?_
      refine gf_X9_66 C 0 rfl rfl dX9_judge_40 ?_
      refine x_iload_n C dX9_judge_43 1 rfl ?_
      refine x_iconst (v := 1) C dX9_judge_44 (by decide) ?_
      refine x_iadd C dX9_judge_45 ?_
      obtain ⟨b3, hF⟩ := ck_s hF
      refine x_iald C 15 rfl b3 dX9_judge_46 ?_
      refine x_icmp_lt (tgt := 56) C dX9_judge_47 (by decide) (fun hc => ?_) (fun hc => ?_)
      · replace hF := ifp hc hF
        cases hF
        exact x_sub [0, 1, 2] rfl K
      · replace hF := ifn hc hF
        refine x_iinc (v := x1 + 1) (lv2 := [(1, .int (x1 + 1)), (0, .ref (q 0)), (2, .int x2)]) C dX9_judge_50 1 rfl rfl (by decide) rfl ?_
        refine x_goto (tgt := 30) C dX9_judge_53 (by decide) ?_
        exact x_sub [1, 0, 2] rfl (ih _ _ hF K)
set_option maxHeartbeats 4000000 in
set_option maxRecDepth 100000 in
theorem w_X9_judge_L19 {κ : xb_k} {Γ : xb_X} {q : Nat → Nat} {mth : Int32} {mn : Int32} {mib : Int32} {mpa : Int32} {mwi : Int32} {mch : Int32} {mst : Int32} {msz : Int32} {mns : Int32} {mld : Int32} {mps : Int32} {mbb : Int32} {mno : (Nat → Int32)} {mpk : (Nat → Int32)} {mtu : (Nat → Int32)} {mfo : (Nat → Int32)} {mbi : (Nat → Int32)} {mwr : (Nat → Int32)} {mus : (Nat → Int32)} {mnu : (Nat → Int32)} {mli : (Nat → Int32)} {mot : (Nat → Int32)} {mbl : (Nat → Int32)} {mki : (Nat → Int32)} {mfr : (Nat → Int32)} {mde : (Nat → Int32)} {mbe : (Nat → Int32)} {mow : (Nat → Int32)} {mco : (Nat → Int32)} {mpt : (Nat → Int32)} {mle : (Nat → Int32)} {mpl : (Nat → Int32)} {mit : (Nat → Int32)} {mro : (Nat → Int32)} {maw : (Nat → Int32)}  {fu : Nat} (C : xb_C κ Γ 3 cX9_judge RX9 { frames := 1, cells := 0, slots := 0, locals := 20 }) : ∀ (n : Nat) (x1 : Int32) (x2 : Int32) (o : Int32 × Int32), F_X9_judge_L19 fu msz mn mbe mbi mwr mth n x1 x2 = some o → xb_E κ Γ (xb_Qi κ o.1 (mw κ q o.2 mn mib mpa mwi mch mst msz mns mld mps mbb mno mpk mtu mfo mbi mwr mus mnu mli mot mbl mki mfr mde mbe mow mco mpt mle mpl mit mro maw)) 0 0 (some .int) → xb_W κ Γ 3 0 0 19 [(0, .ref (q 0)), (1, .int x1), (2, .int x2)] [] (mw κ q mth mn mib mpa mwi mch mst msz mns mld mps mbb mno mpk mtu mfo mbi mwr mus mnu mli mot mbl mki mfr mde mbe mow mco mpt mle mpl mit mro maw) := by
  intro n
  induction n with
  | zero =>
    intro x1 x2 o hF E
    rw [F_X9_judge_L19] at hF
    cases hF
  | succ n ih =>
    intro x1 x2 o hF E
    rw [F_X9_judge_L19] at hF
    refine x_iload_n C dX9_judge_19 2 rfl ?_
    refine x_bipush (v := 8) C dX9_judge_20 (by decide) ?_
    refine x_aload_n C dX9_judge_22 0 rfl ?_
    obtain ⟨o1, h2, hF⟩ := bd_s hF
    refine x_callVi (st := [.int (8 : Int32), .int x2]) C (c_X9_bytes h2) xm_X9_bytes ml_X9_232 0 rfl rfl rfl rfl rfl rfl dX9_judge_23 ⟨rfl, rfl⟩ ?_
    refine x_imul C dX9_judge_26 ?_
    refine x_icmp_ge (tgt := 79) C dX9_judge_27 (by decide) (fun hc => ?_) (fun hc => ?_)
    · replace hF := ifp hc hF
      refine x_iconst (v := (-1)) C dX9_judge_79 (by decide) ?_
      cases hF
      exact x_iret C E dX9_judge_80
    · replace hF := ifn hc hF
      obtain ⟨o3, h4, hF⟩ := bd_s hF
      refine x_sub [0, 1, 2] rfl (w_X9_judge_L30 C fu _ _ h4 ?_)
      refine x_aload_n C dX9_judge_56 0 rfl ?_
      refine gf_X9_36 C 0 rfl rfl dX9_judge_57 ?_
      refine x_iload_n C dX9_judge_60 2 rfl ?_
      obtain ⟨b5, hF⟩ := ck_s hF
      refine x_iald C 5 rfl b5 dX9_judge_61 ?_
      refine x_aload_n C dX9_judge_62 0 rfl ?_
      refine gf_X9_39 C 0 rfl rfl dX9_judge_63 ?_
      refine x_iload_n C dX9_judge_66 2 rfl ?_
      obtain ⟨b6, hF⟩ := ck_s hF
      refine x_iald C 6 rfl b6 dX9_judge_67 ?_
      refine x_icmp_eq (tgt := 73) C dX9_judge_68 (by decide) (fun hc => ?_) (fun hc => ?_)
      · replace hF := ifp hc hF
        refine x_iinc (v := x2 + 1) (lv2 := [(2, .int (x2 + 1)), (0, .ref (q 0)), (1, .int o3)]) C dX9_judge_73 2 rfl rfl (by decide) rfl ?_
        refine x_goto (tgt := 19) C dX9_judge_76 (by decide) ?_
        exact x_sub [1, 2, 0] rfl (ih _ _ _ hF E)
      · replace hF := ifn hc hF
        refine x_iload_n C dX9_judge_71 1 rfl ?_
        cases hF
        exact x_iret C E dX9_judge_72
set_option maxHeartbeats 4000000 in
set_option maxRecDepth 100000 in
theorem c_X9_judge {κ : xb_k} {q : Nat → Nat} {mth : Int32} {mn : Int32} {mib : Int32} {mpa : Int32} {mwi : Int32} {mch : Int32} {mst : Int32} {msz : Int32} {mns : Int32} {mld : Int32} {mps : Int32} {mbb : Int32} {mno : (Nat → Int32)} {mpk : (Nat → Int32)} {mtu : (Nat → Int32)} {mfo : (Nat → Int32)} {mbi : (Nat → Int32)} {mwr : (Nat → Int32)} {mus : (Nat → Int32)} {mnu : (Nat → Int32)} {mli : (Nat → Int32)} {mot : (Nat → Int32)} {mbl : (Nat → Int32)} {mki : (Nat → Int32)} {mfr : (Nat → Int32)} {mde : (Nat → Int32)} {mbe : (Nat → Int32)} {mow : (Nat → Int32)} {mco : (Nat → Int32)} {mpt : (Nat → Int32)} {mle : (Nat → Int32)} {mpl : (Nat → Int32)} {mit : (Nat → Int32)} {mro : (Nat → Int32)} {maw : (Nat → Int32)}  {fu : Nat} {o : Int32 × Int32} (hF : F_X9_judge fu mth mib msz mn mbe mbi mwr = some o) : Met κ.1 yX9_judge [Cond.code yX9_judge cX9_judge 3 (some .int)] { frames := 1, cells := 0, slots := 0, locals := 20 } (xb_P κ [.ref (q 0)] (mw κ q mth mn mib mpa mwi mch mst msz mns mld mps mbb mno mpk mtu mfo mbi mwr mus mnu mli mot mbl mki mfr mde mbe mow mco mpt mle mpl mit mro maw)) (xb_Qi κ o.1 (mw κ q o.2 mn mib mpa mwi mch mst msz mns mld mps mbb mno mpk mtu mfo mbi mwr mus mnu mli mot mbl mki mfr mde mbe mow mco mpt mle mpl mit mro maw)) 0 0 κ.2.2.1 := by
  refine x_enter (own := RX9) (lv0 := [(0, .ref (q 0))]) (by decide) rfl rfl rfl (fun Γ C E => ?_)
  unfold F_X9_judge at hF
  refine x_aload_n C dX9_judge_0 0 rfl ?_
  refine x_iconst (v := 0) C dX9_judge_1 (by decide) ?_
  refine pf_X9_1 (ws2 := (mw κ q (0 : Int32) mn mib mpa mwi mch mst msz mns mld mps mbb mno mpk mtu mfo mbi mwr mus mnu mli mot mbl mki mfr mde mbe mow mco mpt mle mpl mit mro maw)) C 0 rfl dX9_judge_2 rfl rfl ?_
  refine x_aload_n C dX9_judge_5 0 rfl ?_
  refine gf_X9_100 C 0 rfl rfl dX9_judge_6 ?_
  refine x_if_ne (tgt := 15) C dX9_judge_9 (by decide) (fun hc => ?_) (fun hc => ?_)
  · replace hF := ifn hc hF
    refine x_iconst (v := 0) C dX9_judge_15 (by decide) ?_
    refine x_istore_n (lv2 := [(1, .int (0 : Int32)), (0, .ref (q 0))]) C dX9_judge_16 rfl (by decide) rfl ?_
    refine x_iconst (v := 0) C dX9_judge_17 (by decide) ?_
    refine x_istore_n (lv2 := [(2, .int (0 : Int32)), (1, .int (0 : Int32)), (0, .ref (q 0))]) C dX9_judge_18 rfl (by decide) rfl ?_
    exact x_sub [2, 1, 0] rfl (w_X9_judge_L19 C fu _ _ _ hF E)
  · replace hF := ifp hc hF
    refine x_bipush (v := (-3)) C dX9_judge_12 (by decide) ?_
    cases hF
    exact x_iret C E dX9_judge_14
set_option maxHeartbeats 4000000 in
set_option maxRecDepth 100000 in
theorem w_X9_keyOf_L6 {κ : xb_k} {Γ : xb_X} {q : Nat → Nat} {mth : Int32} {mn : Int32} {mib : Int32} {mpa : Int32} {mwi : Int32} {mch : Int32} {mst : Int32} {msz : Int32} {mns : Int32} {mld : Int32} {mps : Int32} {mbb : Int32} {mno : (Nat → Int32)} {mpk : (Nat → Int32)} {mtu : (Nat → Int32)} {mfo : (Nat → Int32)} {mbi : (Nat → Int32)} {mwr : (Nat → Int32)} {mus : (Nat → Int32)} {mnu : (Nat → Int32)} {mli : (Nat → Int32)} {mot : (Nat → Int32)} {mbl : (Nat → Int32)} {mki : (Nat → Int32)} {mfr : (Nat → Int32)} {mde : (Nat → Int32)} {mbe : (Nat → Int32)} {mow : (Nat → Int32)} {mco : (Nat → Int32)} {mpt : (Nat → Int32)} {mle : (Nat → Int32)} {mpl : (Nat → Int32)} {mit : (Nat → Int32)} {mro : (Nat → Int32)} {maw : (Nat → Int32)} {x1 : Int32}  (C : xb_C κ Γ 5 cX9_keyOf RX9 { frames := 0, cells := 0, slots := 0, locals := 0 }) : ∀ (n : Nat) (x2 : Int32) (x3 : Int32) (o : Int32), F_X9_keyOf_L6 x1 mn mno n x2 x3 = some o → xb_W κ Γ 5 0 0 59 [(2, .int o)] [] (mw κ q mth mn mib mpa mwi mch mst msz mns mld mps mbb mno mpk mtu mfo mbi mwr mus mnu mli mot mbl mki mfr mde mbe mow mco mpt mle mpl mit mro maw) → xb_W κ Γ 5 0 0 6 [(0, .ref (q 0)), (1, .int x1), (2, .int x2), (3, .int x3)] [] (mw κ q mth mn mib mpa mwi mch mst msz mns mld mps mbb mno mpk mtu mfo mbi mwr mus mnu mli mot mbl mki mfr mde mbe mow mco mpt mle mpl mit mro maw) := by
  intro n
  induction n with
  | zero =>
    intro x2 x3 o hF K
    rw [F_X9_keyOf_L6] at hF
    cases hF
  | succ n ih =>
    intro x2 x3 o hF K
    rw [F_X9_keyOf_L6] at hF
    refine x_iload_n C dX9_keyOf_6 3 rfl ?_
    refine x_aload_n C dX9_keyOf_7 0 rfl ?_
    refine gf_X9_93 C 0 rfl rfl dX9_keyOf_8 ?_
    refine x_icmp_ge (tgt := 59) C dX9_keyOf_11 (by decide) (fun hc => ?_) (fun hc => ?_)
    · replace hF := ifp hc hF
      cases hF
      exact x_sub [2] rfl K
    · replace hF := ifn hc hF
      refine x_iload_n C dX9_keyOf_14 3 rfl ?_
      refine x_ldc C dX9_keyOf_15 kk_X9_242 ?_
      refine x_imul C dX9_keyOf_17 ?_
      refine x_ldc C dX9_keyOf_18 kk_X9_243 ?_
      refine x_irem C dX9_keyOf_20 (by decide) ?_
      refine x_bipush (v := 64) C dX9_keyOf_21 (by decide) ?_
      refine x_idiv C dX9_keyOf_23 (by decide) ?_
      obtain ⟨v1, e2, hF⟩ := nm_s hF
      refine x_topi e2 ?_
      refine x_istore (lv2 := [(4, .int v1), (0, .ref (q 0)), (1, .int x1), (2, .int x2), (3, .int x3)]) C dX9_keyOf_24 (by decide) rfl ?_
      refine x_aload_n C dX9_keyOf_26 1 rfl ?_
      refine gf_X9_13 C 0 rfl rfl dX9_keyOf_27 ?_
      refine x_bipush (v := 48) C dX9_keyOf_30 (by decide) ?_
      refine x_iload_n C dX9_keyOf_32 2 rfl ?_
      refine x_imul C dX9_keyOf_33 ?_
      refine x_iload_n C dX9_keyOf_34 4 rfl ?_
      refine x_iadd C dX9_keyOf_35 ?_
      obtain ⟨b3, hF⟩ := ck_s hF
      refine x_zald C 1 rfl b3 dX9_keyOf_36 ?_
      refine x_if_eq (tgt := 51) C dX9_keyOf_37 (by decide) (fun hc => ?_) (fun hc => ?_)
      · replace hF := ifp hc hF
        refine x_iload_n C dX9_keyOf_51 3 rfl ?_
        refine x_istore_n (lv2 := [(2, .int x2), (4, .int v1), (0, .ref (q 0)), (1, .int x1), (3, .int x3)]) C dX9_keyOf_52 rfl (by decide) rfl ?_
        refine x_iinc (v := x3 + 1) (lv2 := [(3, .int (x3 + 1)), (2, .int x2), (4, .int v1), (0, .ref (q 0)), (1, .int x1)]) C dX9_keyOf_53 4 rfl rfl (by decide) rfl ?_
        refine x_goto (tgt := 6) C dX9_keyOf_56 (by decide) ?_
        exact x_sub [3, 4, 1, 0] rfl (ih _ _ _ hF K)
      · replace hF := ifn hc hF
        refine x_iload C dX9_keyOf_40 0 rfl ?_
        refine x_iload_n C dX9_keyOf_42 3 rfl ?_
        refine x_icmp_ge (tgt := 51) C dX9_keyOf_43 (by decide) (fun hc => ?_) (fun hc => ?_)
        · replace hF := ifp hc hF
          refine x_iload_n C dX9_keyOf_51 3 rfl ?_
          refine x_istore_n (lv2 := [(2, .int x2), (4, .int v1), (0, .ref (q 0)), (1, .int x1), (3, .int x3)]) C dX9_keyOf_52 rfl (by decide) rfl ?_
          refine x_iinc (v := x3 + 1) (lv2 := [(3, .int (x3 + 1)), (2, .int x2), (4, .int v1), (0, .ref (q 0)), (1, .int x1)]) C dX9_keyOf_53 4 rfl rfl (by decide) rfl ?_
          refine x_goto (tgt := 6) C dX9_keyOf_56 (by decide) ?_
          exact x_sub [3, 4, 1, 0] rfl (ih _ _ _ hF K)
        · replace hF := ifn hc hF
          refine x_iload C dX9_keyOf_46 0 rfl ?_
          refine x_goto (tgt := 52) C dX9_keyOf_48 (by decide) ?_
          refine x_istore_n (lv2 := [(2, .int v1), (4, .int v1), (0, .ref (q 0)), (1, .int x1), (3, .int x3)]) C dX9_keyOf_52 rfl (by decide) rfl ?_
          refine x_iinc (v := x3 + 1) (lv2 := [(3, .int (x3 + 1)), (2, .int v1), (4, .int v1), (0, .ref (q 0)), (1, .int x1)]) C dX9_keyOf_53 4 rfl rfl (by decide) rfl ?_
          refine x_goto (tgt := 6) C dX9_keyOf_56 (by decide) ?_
          exact x_sub [3, 4, 1, 0] rfl (ih _ _ _ hF K)
set_option maxHeartbeats 4000000 in
set_option maxRecDepth 100000 in
theorem c_X9_keyOf {κ : xb_k} {q : Nat → Nat} {mth : Int32} {mn : Int32} {mib : Int32} {mpa : Int32} {mwi : Int32} {mch : Int32} {mst : Int32} {msz : Int32} {mns : Int32} {mld : Int32} {mps : Int32} {mbb : Int32} {mno : (Nat → Int32)} {mpk : (Nat → Int32)} {mtu : (Nat → Int32)} {mfo : (Nat → Int32)} {mbi : (Nat → Int32)} {mwr : (Nat → Int32)} {mus : (Nat → Int32)} {mnu : (Nat → Int32)} {mli : (Nat → Int32)} {mot : (Nat → Int32)} {mbl : (Nat → Int32)} {mki : (Nat → Int32)} {mfr : (Nat → Int32)} {mde : (Nat → Int32)} {mbe : (Nat → Int32)} {mow : (Nat → Int32)} {mco : (Nat → Int32)} {mpt : (Nat → Int32)} {mle : (Nat → Int32)} {mpl : (Nat → Int32)} {mit : (Nat → Int32)} {mro : (Nat → Int32)} {maw : (Nat → Int32)} {x1 : Int32} {fu : Nat} {o : Int32} (hF : F_X9_keyOf fu x1 mn mno = some o) : Met κ.1 yX9_keyOf [Cond.code yX9_keyOf cX9_keyOf 5 (some .int)] { frames := 0, cells := 0, slots := 0, locals := 0 } (xb_P κ [.ref (q 0), .int x1] (mw κ q mth mn mib mpa mwi mch mst msz mns mld mps mbb mno mpk mtu mfo mbi mwr mus mnu mli mot mbl mki mfr mde mbe mow mco mpt mle mpl mit mro maw)) (xb_Qi κ o (mw κ q mth mn mib mpa mwi mch mst msz mns mld mps mbb mno mpk mtu mfo mbi mwr mus mnu mli mot mbl mki mfr mde mbe mow mco mpt mle mpl mit mro maw)) 0 0 κ.2.2.1 := by
  refine x_enter (own := RX9) (lv0 := [(0, .ref (q 0)), (1, .int x1)]) (by decide) rfl rfl rfl (fun Γ C E => ?_)
  unfold F_X9_keyOf at hF
  refine x_sipush (v := 1024) C dX9_keyOf_0 (by decide) ?_
  refine x_istore_n (lv2 := [(2, .int (1024 : Int32)), (0, .ref (q 0)), (1, .int x1)]) C dX9_keyOf_3 rfl (by decide) rfl ?_
  refine x_iconst (v := 0) C dX9_keyOf_4 (by decide) ?_
  refine x_istore_n (lv2 := [(3, .int (0 : Int32)), (2, .int (1024 : Int32)), (0, .ref (q 0)), (1, .int x1)]) C dX9_keyOf_5 rfl (by decide) rfl ?_
  obtain ⟨o4, h5, hF⟩ := bd_s hF
  refine x_sub [2, 3, 1, 0] rfl (w_X9_keyOf_L6 C fu _ _ _ h5 ?_)
  refine x_iload_n C dX9_keyOf_59 0 rfl ?_
  cases hF
  exact x_iret C E dX9_keyOf_60
set_option maxHeartbeats 4000000 in
set_option maxRecDepth 100000 in
theorem w_X9_orderBy_L35 {κ : xb_k} {Γ : xb_X} {q : Nat → Nat} {mth : Int32} {mn : Int32} {mib : Int32} {mpa : Int32} {mwi : Int32} {mch : Int32} {mst : Int32} {msz : Int32} {mns : Int32} {mld : Int32} {mps : Int32} {mbb : Int32} {mno : (Nat → Int32)} {mpk : (Nat → Int32)} {mtu : (Nat → Int32)} {mfo : (Nat → Int32)} {mbi : (Nat → Int32)} {mwr : (Nat → Int32)} {mus : (Nat → Int32)} {mnu : (Nat → Int32)} {mli : (Nat → Int32)} {mot : (Nat → Int32)} {mbl : (Nat → Int32)} {mki : (Nat → Int32)} {mfr : (Nat → Int32)} {mde : (Nat → Int32)} {mbe : (Nat → Int32)} {mow : (Nat → Int32)} {mco : (Nat → Int32)} {mpt : (Nat → Int32)} {mle : (Nat → Int32)} {mpl : (Nat → Int32)} {mit : (Nat → Int32)} {mro : (Nat → Int32)} {maw : (Nat → Int32)} {x1 : Int32} {x2 : Int32} {x4 : Int32} {fu : Nat} (C : xb_C κ Γ 7 cX9_orderBy RX9 { frames := 1, cells := 0, slots := 0, locals := 24 }) : ∀ (n : Nat) (x3 : Int32) (x5 : Int32) (o : Int32), F_X9_orderBy_L35 fu x1 x2 x4 mn mno n x3 x5 = some o → xb_W κ Γ 7 0 0 100 [(0, .ref (q 0)), (1, .int x1), (2, .int x2), (3, .int o)] [] (mw κ q mth mn mib mpa mwi mch mst msz mns mld mps mbb mno mpk mtu mfo mbi mwr mus mnu mli mot mbl mki mfr mde mbe mow mco mpt mle mpl mit mro maw) → xb_W κ Γ 7 0 0 35 [(0, .ref (q 0)), (1, .int x1), (2, .int x2), (3, .int x3), (4, .int x4), (5, .int x5)] [] (mw κ q mth mn mib mpa mwi mch mst msz mns mld mps mbb mno mpk mtu mfo mbi mwr mus mnu mli mot mbl mki mfr mde mbe mow mco mpt mle mpl mit mro maw) := by
  intro n
  induction n with
  | zero =>
    intro x3 x5 o hF K
    rw [F_X9_orderBy_L35] at hF
    cases hF
  | succ n ih =>
    intro x3 x5 o hF K
    rw [F_X9_orderBy_L35] at hF
    refine x_iload C dX9_orderBy_35 5 rfl ?_
    refine x_aload_n C dX9_orderBy_37 0 rfl ?_
    refine gf_X9_93 C 0 rfl rfl dX9_orderBy_38 ?_
    refine x_icmp_ge (tgt := 100) C dX9_orderBy_41 (by decide) (fun hc => ?_) (fun hc => ?_)
    · replace hF := ifp hc hF
      cases hF
      exact x_sub [0, 1, 2, 3] rfl K
    · replace hF := ifn hc hF
      refine x_iload_n C dX9_orderBy_44 1 rfl ?_
      refine x_if_ne (tgt := 58) C dX9_orderBy_45 (by decide) (fun hc => ?_) (fun hc => ?_)
      · replace hF := ifn hc hF
        refine x_aload_n C dX9_orderBy_58 0 rfl ?_
        refine x_iload C dX9_orderBy_59 5 rfl ?_
        obtain ⟨o3, h4, hF⟩ := bd_s hF
        refine x_callVi (st := []) C (c_X9_keyOf h4) xm_X9_keyOf ml_X9_244 0 rfl rfl rfl rfl rfl rfl dX9_orderBy_61 ⟨rfl, rfl⟩ ?_
        refine x_istore (lv2 := [(6, .int o3), (0, .ref (q 0)), (1, .int x1), (2, .int x2), (3, .int x3), (4, .int x4), (5, .int x5)]) C dX9_orderBy_64 (by decide) rfl ?_
        refine x_iload_n C dX9_orderBy_66 4 rfl ?_
        refine x_iload C dX9_orderBy_67 0 rfl ?_
        refine x_iload C dX9_orderBy_69 5 rfl ?_
        refine x_icmp_lt (tgt := 87) C dX9_orderBy_71 (by decide) (fun hc => ?_) (fun hc => ?_)
        · replace hF := ifp hc hF
          refine x_iconst (v := 1) C dX9_orderBy_87 (by decide) ?_
          refine x_goto (tgt := 92) C dX9_orderBy_88 (by decide) ?_
          refine x_iadd C dX9_orderBy_92 ?_
          refine x_istore_n (lv2 := [(3, .int (x3 + (1 : Int32))), (6, .int o3), (0, .ref (q 0)), (1, .int x1), (2, .int x2), (4, .int x4), (5, .int x5)]) C dX9_orderBy_93 rfl (by decide) rfl ?_
          refine x_iinc (v := x5 + 1) (lv2 := [(5, .int (x5 + 1)), (3, .int (x3 + (1 : Int32))), (6, .int o3), (0, .ref (q 0)), (1, .int x1), (2, .int x2), (4, .int x4)]) C dX9_orderBy_94 6 rfl rfl (by decide) rfl ?_
          refine x_goto (tgt := 35) C dX9_orderBy_97 (by decide) ?_
          exact x_sub [3, 4, 5, 1, 6, 0] rfl (ih _ _ _ hF K)
        · replace hF := ifn hc hF
          refine x_iload C dX9_orderBy_74 0 rfl ?_
          refine x_iload C dX9_orderBy_76 5 rfl ?_
          refine x_icmp_ne (tgt := 91) C dX9_orderBy_78 (by decide) (fun hc => ?_) (fun hc => ?_)
          · replace hF := ifn hc hF
            refine x_iconst (v := 0) C dX9_orderBy_91 (by decide) ?_
            refine x_iadd C dX9_orderBy_92 ?_
            refine x_istore_n (lv2 := [(3, .int (x3 + (0 : Int32))), (6, .int o3), (0, .ref (q 0)), (1, .int x1), (2, .int x2), (4, .int x4), (5, .int x5)]) C dX9_orderBy_93 rfl (by decide) rfl ?_
            refine x_iinc (v := x5 + 1) (lv2 := [(5, .int (x5 + 1)), (3, .int (x3 + (0 : Int32))), (6, .int o3), (0, .ref (q 0)), (1, .int x1), (2, .int x2), (4, .int x4)]) C dX9_orderBy_94 6 rfl rfl (by decide) rfl ?_
            refine x_goto (tgt := 35) C dX9_orderBy_97 (by decide) ?_
            exact x_sub [3, 4, 5, 1, 6, 0] rfl (ih _ _ _ hF K)
          · replace hF := ifp hc hF
            refine x_iload C dX9_orderBy_81 6 rfl ?_
            refine x_iload_n C dX9_orderBy_83 3 rfl ?_
            refine x_icmp_ge (tgt := 91) C dX9_orderBy_84 (by decide) (fun hc => ?_) (fun hc => ?_)
            · replace hF := ifp hc hF
              refine x_iconst (v := 0) C dX9_orderBy_91 (by decide) ?_
              refine x_iadd C dX9_orderBy_92 ?_
              refine x_istore_n (lv2 := [(3, .int (x3 + (0 : Int32))), (6, .int o3), (0, .ref (q 0)), (1, .int x1), (2, .int x2), (4, .int x4), (5, .int x5)]) C dX9_orderBy_93 rfl (by decide) rfl ?_
              refine x_iinc (v := x5 + 1) (lv2 := [(5, .int (x5 + 1)), (3, .int (x3 + (0 : Int32))), (6, .int o3), (0, .ref (q 0)), (1, .int x1), (2, .int x2), (4, .int x4)]) C dX9_orderBy_94 6 rfl rfl (by decide) rfl ?_
              refine x_goto (tgt := 35) C dX9_orderBy_97 (by decide) ?_
              exact x_sub [3, 4, 5, 1, 6, 0] rfl (ih _ _ _ hF K)
            · replace hF := ifn hc hF
              refine x_iconst (v := 1) C dX9_orderBy_87 (by decide) ?_
              refine x_goto (tgt := 92) C dX9_orderBy_88 (by decide) ?_
              refine x_iadd C dX9_orderBy_92 ?_
              refine x_istore_n (lv2 := [(3, .int (x3 + (1 : Int32))), (6, .int o3), (0, .ref (q 0)), (1, .int x1), (2, .int x2), (4, .int x4), (5, .int x5)]) C dX9_orderBy_93 rfl (by decide) rfl ?_
              refine x_iinc (v := x5 + 1) (lv2 := [(5, .int (x5 + 1)), (3, .int (x3 + (1 : Int32))), (6, .int o3), (0, .ref (q 0)), (1, .int x1), (2, .int x2), (4, .int x4)]) C dX9_orderBy_94 6 rfl rfl (by decide) rfl ?_
              refine x_goto (tgt := 35) C dX9_orderBy_97 (by decide) ?_
              exact x_sub [3, 4, 5, 1, 6, 0] rfl (ih _ _ _ hF K)
      · replace hF := ifp hc hF
        refine x_aload_n C dX9_orderBy_48 0 rfl ?_
        refine x_iload C dX9_orderBy_49 5 rfl ?_
        obtain ⟨o5, h6, hF⟩ := bd_s hF
        refine x_callVi (st := []) C (c_X9_rowSize h6) xm_X9_rowSize ml_X9_115 0 rfl rfl rfl rfl rfl rfl dX9_orderBy_51 ⟨rfl, rfl⟩ ?_
        refine x_ineg C dX9_orderBy_54 ?_
        refine x_goto (tgt := 64) C dX9_orderBy_55 (by decide) ?_
        refine x_istore (lv2 := [(6, .int (-o5)), (0, .ref (q 0)), (1, .int x1), (2, .int x2), (3, .int x3), (4, .int x4), (5, .int x5)]) C dX9_orderBy_64 (by decide) rfl ?_
        refine x_iload_n C dX9_orderBy_66 4 rfl ?_
        refine x_iload C dX9_orderBy_67 0 rfl ?_
        refine x_iload C dX9_orderBy_69 5 rfl ?_
        refine x_icmp_lt (tgt := 87) C dX9_orderBy_71 (by decide) (fun hc => ?_) (fun hc => ?_)
        · replace hF := ifp hc hF
          refine x_iconst (v := 1) C dX9_orderBy_87 (by decide) ?_
          refine x_goto (tgt := 92) C dX9_orderBy_88 (by decide) ?_
          refine x_iadd C dX9_orderBy_92 ?_
          refine x_istore_n (lv2 := [(3, .int (x3 + (1 : Int32))), (6, .int (-o5)), (0, .ref (q 0)), (1, .int x1), (2, .int x2), (4, .int x4), (5, .int x5)]) C dX9_orderBy_93 rfl (by decide) rfl ?_
          refine x_iinc (v := x5 + 1) (lv2 := [(5, .int (x5 + 1)), (3, .int (x3 + (1 : Int32))), (6, .int (-o5)), (0, .ref (q 0)), (1, .int x1), (2, .int x2), (4, .int x4)]) C dX9_orderBy_94 6 rfl rfl (by decide) rfl ?_
          refine x_goto (tgt := 35) C dX9_orderBy_97 (by decide) ?_
          exact x_sub [3, 4, 5, 1, 6, 0] rfl (ih _ _ _ hF K)
        · replace hF := ifn hc hF
          refine x_iload C dX9_orderBy_74 0 rfl ?_
          refine x_iload C dX9_orderBy_76 5 rfl ?_
          refine x_icmp_ne (tgt := 91) C dX9_orderBy_78 (by decide) (fun hc => ?_) (fun hc => ?_)
          · replace hF := ifn hc hF
            refine x_iconst (v := 0) C dX9_orderBy_91 (by decide) ?_
            refine x_iadd C dX9_orderBy_92 ?_
            refine x_istore_n (lv2 := [(3, .int (x3 + (0 : Int32))), (6, .int (-o5)), (0, .ref (q 0)), (1, .int x1), (2, .int x2), (4, .int x4), (5, .int x5)]) C dX9_orderBy_93 rfl (by decide) rfl ?_
            refine x_iinc (v := x5 + 1) (lv2 := [(5, .int (x5 + 1)), (3, .int (x3 + (0 : Int32))), (6, .int (-o5)), (0, .ref (q 0)), (1, .int x1), (2, .int x2), (4, .int x4)]) C dX9_orderBy_94 6 rfl rfl (by decide) rfl ?_
            refine x_goto (tgt := 35) C dX9_orderBy_97 (by decide) ?_
            exact x_sub [3, 4, 5, 1, 6, 0] rfl (ih _ _ _ hF K)
          · replace hF := ifp hc hF
            refine x_iload C dX9_orderBy_81 6 rfl ?_
            refine x_iload_n C dX9_orderBy_83 3 rfl ?_
            refine x_icmp_ge (tgt := 91) C dX9_orderBy_84 (by decide) (fun hc => ?_) (fun hc => ?_)
            · replace hF := ifp hc hF
              refine x_iconst (v := 0) C dX9_orderBy_91 (by decide) ?_
              refine x_iadd C dX9_orderBy_92 ?_
              refine x_istore_n (lv2 := [(3, .int (x3 + (0 : Int32))), (6, .int (-o5)), (0, .ref (q 0)), (1, .int x1), (2, .int x2), (4, .int x4), (5, .int x5)]) C dX9_orderBy_93 rfl (by decide) rfl ?_
              refine x_iinc (v := x5 + 1) (lv2 := [(5, .int (x5 + 1)), (3, .int (x3 + (0 : Int32))), (6, .int (-o5)), (0, .ref (q 0)), (1, .int x1), (2, .int x2), (4, .int x4)]) C dX9_orderBy_94 6 rfl rfl (by decide) rfl ?_
              refine x_goto (tgt := 35) C dX9_orderBy_97 (by decide) ?_
              exact x_sub [3, 4, 5, 1, 6, 0] rfl (ih _ _ _ hF K)
            · replace hF := ifn hc hF
              refine x_iconst (v := 1) C dX9_orderBy_87 (by decide) ?_
              refine x_goto (tgt := 92) C dX9_orderBy_88 (by decide) ?_
              refine x_iadd C dX9_orderBy_92 ?_
              refine x_istore_n (lv2 := [(3, .int (x3 + (1 : Int32))), (6, .int (-o5)), (0, .ref (q 0)), (1, .int x1), (2, .int x2), (4, .int x4), (5, .int x5)]) C dX9_orderBy_93 rfl (by decide) rfl ?_
              refine x_iinc (v := x5 + 1) (lv2 := [(5, .int (x5 + 1)), (3, .int (x3 + (1 : Int32))), (6, .int (-o5)), (0, .ref (q 0)), (1, .int x1), (2, .int x2), (4, .int x4)]) C dX9_orderBy_94 6 rfl rfl (by decide) rfl ?_
              refine x_goto (tgt := 35) C dX9_orderBy_97 (by decide) ?_
              exact x_sub [3, 4, 5, 1, 6, 0] rfl (ih _ _ _ hF K)
set_option maxHeartbeats 4000000 in
set_option maxRecDepth 100000 in
theorem w_X9_orderBy_L2 {κ : xb_k} {Γ : xb_X} {q : Nat → Nat} {mth : Int32} {mn : Int32} {mib : Int32} {mpa : Int32} {mwi : Int32} {mch : Int32} {mst : Int32} {msz : Int32} {mns : Int32} {mld : Int32} {mps : Int32} {mbb : Int32} {mno : (Nat → Int32)} {mpk : (Nat → Int32)} {mtu : (Nat → Int32)} {mfo : (Nat → Int32)} {mbi : (Nat → Int32)} {mwr : (Nat → Int32)} {mus : (Nat → Int32)} {mnu : (Nat → Int32)} {mli : (Nat → Int32)} {mot : (Nat → Int32)} {mbl : (Nat → Int32)} {mki : (Nat → Int32)} {mfr : (Nat → Int32)} {mde : (Nat → Int32)} {mbe : (Nat → Int32)} {mow : (Nat → Int32)} {mco : (Nat → Int32)} {mpt : (Nat → Int32)} {mle : (Nat → Int32)} {mit : (Nat → Int32)} {mro : (Nat → Int32)} {maw : (Nat → Int32)} {x1 : Int32} {fu : Nat} (C : xb_C κ Γ 7 cX9_orderBy RX9 { frames := 1, cells := 0, slots := 0, locals := 24 }) : ∀ (n : Nat) (x2 : Int32) (mpl : (Nat → Int32)) (o : (Nat → Int32)), F_X9_orderBy_L2 fu x1 mn mno n x2 mpl = some o → xb_W κ Γ 7 0 0 113 [] [] (mw κ q mth mn mib mpa mwi mch mst msz mns mld mps mbb mno mpk mtu mfo mbi mwr mus mnu mli mot mbl mki mfr mde mbe mow mco mpt mle o mit mro maw) → xb_W κ Γ 7 0 0 2 [(0, .ref (q 0)), (1, .int x1), (2, .int x2)] [] (mw κ q mth mn mib mpa mwi mch mst msz mns mld mps mbb mno mpk mtu mfo mbi mwr mus mnu mli mot mbl mki mfr mde mbe mow mco mpt mle mpl mit mro maw) := by
  intro n
  induction n with
  | zero =>
    intro x2 mpl o hF K
    rw [F_X9_orderBy_L2] at hF
    cases hF
  | succ n ih =>
    intro x2 mpl o hF K
    rw [F_X9_orderBy_L2] at hF
    refine x_iload_n C dX9_orderBy_2 2 rfl ?_
    refine x_aload_n C dX9_orderBy_3 0 rfl ?_
    refine gf_X9_93 C 0 rfl rfl dX9_orderBy_4 ?_
    refine x_icmp_ge (tgt := 113) C dX9_orderBy_7 (by decide) (fun hc => ?_) (fun hc => ?_)
    · replace hF := ifp hc hF
      cases hF
      exact x_sub [] rfl K
    · replace hF := ifn hc hF
      refine x_iconst (v := 0) C dX9_orderBy_10 (by decide) ?_
      refine x_istore_n (lv2 := [(3, .int (0 : Int32)), (0, .ref (q 0)), (1, .int x1), (2, .int x2)]) C dX9_orderBy_11 rfl (by decide) rfl ?_
      refine x_iload_n C dX9_orderBy_12 2 rfl ?_
      refine x_if_ne (tgt := 25) C dX9_orderBy_13 (by decide) (fun hc => ?_) (fun hc => ?_)
      · replace hF := ifn hc hF
        refine x_aload_n C dX9_orderBy_25 1 rfl ?_
        refine x_iload_n C dX9_orderBy_26 3 rfl ?_
        obtain ⟨o1, h2, hF⟩ := bd_s hF
        refine x_callVi (st := []) C (c_X9_keyOf h2) xm_X9_keyOf ml_X9_244 0 rfl rfl rfl rfl rfl rfl dX9_orderBy_27 ⟨rfl, rfl⟩ ?_
        refine x_istore (lv2 := [(4, .int o1), (3, .int (0 : Int32)), (0, .ref (q 0)), (1, .int x1), (2, .int x2)]) C dX9_orderBy_30 (by decide) rfl ?_
        refine x_iconst (v := 0) C dX9_orderBy_32 (by decide) ?_
        refine x_istore (lv2 := [(5, .int (0 : Int32)), (4, .int o1), (3, .int (0 : Int32)), (0, .ref (q 0)), (1, .int x1), (2, .int x2)]) C dX9_orderBy_33 (by decide) rfl ?_
        obtain ⟨o3, h4, hF⟩ := bd_s hF
        refine x_sub [3, 4, 5, 2, 1, 0] rfl (w_X9_orderBy_L35 C fu _ _ _ h4 ?_)
        refine x_aload_n C dX9_orderBy_100 0 rfl ?_
        refine gf_X9_81 C 0 rfl rfl dX9_orderBy_101 ?_
        refine x_iload_n C dX9_orderBy_104 3 rfl ?_
        refine x_iload_n C dX9_orderBy_105 2 rfl ?_
        obtain ⟨b5, hF⟩ := ck_s hF
        refine x_iast (ws2 := (mw κ q mth mn mib mpa mwi mch mst msz mns mld mps mbb mno mpk mtu mfo mbi mwr mus mnu mli mot mbl mki mfr mde mbe mow mco mpt mle (upd mpl o3.toNatClampNeg x2) mit mro maw)) C 20 rfl b5 dX9_orderBy_106 rfl ?_
        refine x_iinc (v := x2 + 1) (lv2 := [(2, .int (x2 + 1)), (0, .ref (q 0)), (1, .int x1), (3, .int o3)]) C dX9_orderBy_107 2 rfl rfl (by decide) rfl ?_
        refine x_goto (tgt := 2) C dX9_orderBy_110 (by decide) ?_
        exact x_sub [1, 2, 0] rfl (ih _ _ _ hF K)
      · replace hF := ifp hc hF
        refine x_aload_n C dX9_orderBy_16 1 rfl ?_
        refine x_iload_n C dX9_orderBy_17 3 rfl ?_
        obtain ⟨o6, h7, hF⟩ := bd_s hF
        refine x_callVi (st := []) C (c_X9_rowSize h7) xm_X9_rowSize ml_X9_115 0 rfl rfl rfl rfl rfl rfl dX9_orderBy_18 ⟨rfl, rfl⟩ ?_
        refine x_ineg C dX9_orderBy_21 ?_
        refine x_goto (tgt := 30) C dX9_orderBy_22 (by decide) ?_
        refine x_istore (lv2 := [(4, .int (-o6)), (3, .int (0 : Int32)), (0, .ref (q 0)), (1, .int x1), (2, .int x2)]) C dX9_orderBy_30 (by decide) rfl ?_
        refine x_iconst (v := 0) C dX9_orderBy_32 (by decide) ?_
        refine x_istore (lv2 := [(5, .int (0 : Int32)), (4, .int (-o6)), (3, .int (0 : Int32)), (0, .ref (q 0)), (1, .int x1), (2, .int x2)]) C dX9_orderBy_33 (by decide) rfl ?_
        obtain ⟨o8, h9, hF⟩ := bd_s hF
        refine x_sub [3, 4, 5, 2, 1, 0] rfl (w_X9_orderBy_L35 C fu _ _ _ h9 ?_)
        refine x_aload_n C dX9_orderBy_100 0 rfl ?_
        refine gf_X9_81 C 0 rfl rfl dX9_orderBy_101 ?_
        refine x_iload_n C dX9_orderBy_104 3 rfl ?_
        refine x_iload_n C dX9_orderBy_105 2 rfl ?_
        obtain ⟨b10, hF⟩ := ck_s hF
        refine x_iast (ws2 := (mw κ q mth mn mib mpa mwi mch mst msz mns mld mps mbb mno mpk mtu mfo mbi mwr mus mnu mli mot mbl mki mfr mde mbe mow mco mpt mle (upd mpl o8.toNatClampNeg x2) mit mro maw)) C 20 rfl b10 dX9_orderBy_106 rfl ?_
        refine x_iinc (v := x2 + 1) (lv2 := [(2, .int (x2 + 1)), (0, .ref (q 0)), (1, .int x1), (3, .int o8)]) C dX9_orderBy_107 2 rfl rfl (by decide) rfl ?_
        refine x_goto (tgt := 2) C dX9_orderBy_110 (by decide) ?_
        exact x_sub [1, 2, 0] rfl (ih _ _ _ hF K)
set_option maxHeartbeats 4000000 in
set_option maxRecDepth 100000 in
theorem c_X9_orderBy {κ : xb_k} {q : Nat → Nat} {mth : Int32} {mn : Int32} {mib : Int32} {mpa : Int32} {mwi : Int32} {mch : Int32} {mst : Int32} {msz : Int32} {mns : Int32} {mld : Int32} {mps : Int32} {mbb : Int32} {mno : (Nat → Int32)} {mpk : (Nat → Int32)} {mtu : (Nat → Int32)} {mfo : (Nat → Int32)} {mbi : (Nat → Int32)} {mwr : (Nat → Int32)} {mus : (Nat → Int32)} {mnu : (Nat → Int32)} {mli : (Nat → Int32)} {mot : (Nat → Int32)} {mbl : (Nat → Int32)} {mki : (Nat → Int32)} {mfr : (Nat → Int32)} {mde : (Nat → Int32)} {mbe : (Nat → Int32)} {mow : (Nat → Int32)} {mco : (Nat → Int32)} {mpt : (Nat → Int32)} {mle : (Nat → Int32)} {mpl : (Nat → Int32)} {mit : (Nat → Int32)} {mro : (Nat → Int32)} {maw : (Nat → Int32)} {x1 : Int32} {fu : Nat} {o : (Nat → Int32)} (hF : F_X9_orderBy fu x1 mn mno mpl = some o) : Met κ.1 yX9_orderBy [Cond.code yX9_orderBy cX9_orderBy 7 none] { frames := 1, cells := 0, slots := 0, locals := 24 } (xb_P κ [.ref (q 0), .int x1] (mw κ q mth mn mib mpa mwi mch mst msz mns mld mps mbb mno mpk mtu mfo mbi mwr mus mnu mli mot mbl mki mfr mde mbe mow mco mpt mle mpl mit mro maw)) (xb_Qv κ (mw κ q mth mn mib mpa mwi mch mst msz mns mld mps mbb mno mpk mtu mfo mbi mwr mus mnu mli mot mbl mki mfr mde mbe mow mco mpt mle o mit mro maw)) 0 0 κ.2.2.1 := by
  refine x_enter (own := RX9) (lv0 := [(0, .ref (q 0)), (1, .int x1)]) (by decide) rfl rfl rfl (fun Γ C E => ?_)
  unfold F_X9_orderBy at hF
  refine x_iconst (v := 0) C dX9_orderBy_0 (by decide) ?_
  refine x_istore_n (lv2 := [(2, .int (0 : Int32)), (0, .ref (q 0)), (1, .int x1)]) C dX9_orderBy_1 rfl (by decide) rfl ?_
  obtain ⟨o11, h12, hF⟩ := bd_s hF
  refine x_sub [1, 2, 0] rfl (w_X9_orderBy_L2 C fu _ _ _ h12 ?_)
  cases hF
  exact x_vret C E dX9_orderBy_113
set_option maxHeartbeats 4000000 in
set_option maxRecDepth 100000 in
theorem w_X9_orderLayers_L2 {κ : xb_k} {Γ : xb_X} {q : Nat → Nat} {mth : Int32} {mn : Int32} {mib : Int32} {mpa : Int32} {mwi : Int32} {mch : Int32} {mst : Int32} {msz : Int32} {mns : Int32} {mld : Int32} {mps : Int32} {mbb : Int32} {mno : (Nat → Int32)} {mpk : (Nat → Int32)} {mtu : (Nat → Int32)} {mfo : (Nat → Int32)} {mbi : (Nat → Int32)} {mwr : (Nat → Int32)} {mus : (Nat → Int32)} {mnu : (Nat → Int32)} {mli : (Nat → Int32)} {mot : (Nat → Int32)} {mbl : (Nat → Int32)} {mki : (Nat → Int32)} {mfr : (Nat → Int32)} {mde : (Nat → Int32)} {mbe : (Nat → Int32)} {mow : (Nat → Int32)} {mco : (Nat → Int32)} {mpt : (Nat → Int32)} {mle : (Nat → Int32)} {mpl : (Nat → Int32)} {mro : (Nat → Int32)} {maw : (Nat → Int32)}   (C : xb_C κ Γ 4 cX9_orderLayers RX9 { frames := 0, cells := 0, slots := 0, locals := 0 }) : ∀ (n : Nat) (x1 : Int32) (mit : (Nat → Int32)) (o : (Nat → Int32)), F_X9_orderLayers_L2 mn n x1 mit = some o → xb_W κ Γ 4 0 0 23 [(0, .ref (q 0))] [] (mw κ q mth mn mib mpa mwi mch mst msz mns mld mps mbb mno mpk mtu mfo mbi mwr mus mnu mli mot mbl mki mfr mde mbe mow mco mpt mle mpl o mro maw) → xb_W κ Γ 4 0 0 2 [(0, .ref (q 0)), (1, .int x1)] [] (mw κ q mth mn mib mpa mwi mch mst msz mns mld mps mbb mno mpk mtu mfo mbi mwr mus mnu mli mot mbl mki mfr mde mbe mow mco mpt mle mpl mit mro maw) := by
  intro n
  induction n with
  | zero =>
    intro x1 mit o hF K
    rw [F_X9_orderLayers_L2] at hF
    cases hF
  | succ n ih =>
    intro x1 mit o hF K
    rw [F_X9_orderLayers_L2] at hF
    refine x_iload_n C dX9_orderLayers_2 1 rfl ?_
    refine x_aload_n C dX9_orderLayers_3 0 rfl ?_
    refine gf_X9_93 C 0 rfl rfl dX9_orderLayers_4 ?_
    refine x_icmp_ge (tgt := 23) C dX9_orderLayers_7 (by decide) (fun hc => ?_) (fun hc => ?_)
    · replace hF := ifp hc hF
      cases hF
      exact x_sub [0] rfl K
    · replace hF := ifn hc hF
      refine x_aload_n C dX9_orderLayers_10 0 rfl ?_
      refine gf_X9_84 C 0 rfl rfl dX9_orderLayers_11 ?_
      refine x_iload_n C dX9_orderLayers_14 1 rfl ?_
      refine x_iconst (v := 0) C dX9_orderLayers_15 (by decide) ?_
      obtain ⟨b1, hF⟩ := ck_s hF
      refine x_zast (ws2 := (mw κ q mth mn mib mpa mwi mch mst msz mns mld mps mbb mno mpk mtu mfo mbi mwr mus mnu mli mot mbl mki mfr mde mbe mow mco mpt mle mpl (upd mit x1.toNatClampNeg (vp_nar .boolean (0 : Int32))) mro maw)) C 21 rfl b1 dX9_orderLayers_16 rfl ?_
      refine x_iinc (v := x1 + 1) (lv2 := [(1, .int (x1 + 1)), (0, .ref (q 0))]) C dX9_orderLayers_17 1 rfl rfl (by decide) rfl ?_
      refine x_goto (tgt := 2) C dX9_orderLayers_20 (by decide) ?_
      exact x_sub [1, 0] rfl (ih _ _ _ hF K)
set_option maxHeartbeats 4000000 in
set_option maxRecDepth 100000 in
theorem w_X9_orderLayers_L76 {κ : xb_k} {Γ : xb_X} {q : Nat → Nat} {mth : Int32} {mn : Int32} {mib : Int32} {mpa : Int32} {mwi : Int32} {mch : Int32} {mst : Int32} {msz : Int32} {mns : Int32} {mld : Int32} {mps : Int32} {mbb : Int32} {mno : (Nat → Int32)} {mpk : (Nat → Int32)} {mtu : (Nat → Int32)} {mfo : (Nat → Int32)} {mbi : (Nat → Int32)} {mwr : (Nat → Int32)} {mus : (Nat → Int32)} {mnu : (Nat → Int32)} {mli : (Nat → Int32)} {mot : (Nat → Int32)} {mbl : (Nat → Int32)} {mki : (Nat → Int32)} {mfr : (Nat → Int32)} {mde : (Nat → Int32)} {mbe : (Nat → Int32)} {mow : (Nat → Int32)} {mco : (Nat → Int32)} {mpt : (Nat → Int32)} {mle : (Nat → Int32)} {mro : (Nat → Int32)} {maw : (Nat → Int32)} {x2 : Int32}  (C : xb_C κ Γ 4 cX9_orderLayers RX9 { frames := 0, cells := 0, slots := 0, locals := 0 }) : ∀ (n : Nat) (x1 : Int32) (x3 : Int32) (mpl : (Nat → Int32)) (mit : (Nat → Int32)) (o : Int32 × (Nat → Int32) × (Nat → Int32)), F_X9_orderLayers_L76 x2 mn mno n x1 x3 mpl mit = some o → xb_W κ Γ 4 0 0 135 [(0, .ref (q 0)), (1, .int o.1), (2, .int x2)] [] (mw κ q mth mn mib mpa mwi mch mst msz mns mld mps mbb mno mpk mtu mfo mbi mwr mus mnu mli mot mbl mki mfr mde mbe mow mco mpt mle o.2.1 o.2.2 mro maw) → xb_W κ Γ 4 0 0 76 [(0, .ref (q 0)), (1, .int x1), (2, .int x2), (3, .int x3)] [] (mw κ q mth mn mib mpa mwi mch mst msz mns mld mps mbb mno mpk mtu mfo mbi mwr mus mnu mli mot mbl mki mfr mde mbe mow mco mpt mle mpl mit mro maw) := by
  intro n
  induction n with
  | zero =>
    intro x1 x3 mpl mit o hF K
    rw [F_X9_orderLayers_L76] at hF
    cases hF
  | succ n ih =>
    intro x1 x3 mpl mit o hF K
    rw [F_X9_orderLayers_L76] at hF
    refine x_iload_n C dX9_orderLayers_76 3 rfl ?_
    refine x_aload_n C dX9_orderLayers_77 0 rfl ?_
    refine gf_X9_93 C 0 rfl rfl dX9_orderLayers_78 ?_
    refine x_icmp_ge (tgt := 135) C dX9_orderLayers_81 (by decide) (fun hc => ?_) (fun hc => ?_)
    · replace hF := ifp hc hF
      cases hF
      exact x_sub [0, 1, 2] rfl K
    · replace hF := ifn hc hF
      refine x_aload_n C dX9_orderLayers_84 0 rfl ?_
      refine gf_X9_13 C 0 rfl rfl dX9_orderLayers_85 ?_
      refine x_bipush (v := 48) C dX9_orderLayers_88 (by decide) ?_
      refine x_aload_n C dX9_orderLayers_90 0 rfl ?_
      refine gf_X9_81 C 0 rfl rfl dX9_orderLayers_91 ?_
      refine x_iload_n C dX9_orderLayers_94 2 rfl ?_
      obtain ⟨b4, hF⟩ := ck_s hF
      refine x_iald C 20 rfl b4 dX9_orderLayers_95 ?_
      refine x_imul C dX9_orderLayers_96 ?_
      refine x_iload_n C dX9_orderLayers_97 3 rfl ?_
      refine x_iadd C dX9_orderLayers_98 ?_
      obtain ⟨b5, hF⟩ := ck_s hF
      refine x_zald C 1 rfl b5 dX9_orderLayers_99 ?_
      refine x_if_eq (tgt := 129) C dX9_orderLayers_100 (by decide) (fun hc => ?_) (fun hc => ?_)
      · replace hF := ifp hc hF
        refine x_iinc (v := x3 + 1) (lv2 := [(3, .int (x3 + 1)), (0, .ref (q 0)), (1, .int x1), (2, .int x2)]) C dX9_orderLayers_129 3 rfl rfl (by decide) rfl ?_
        refine x_goto (tgt := 76) C dX9_orderLayers_132 (by decide) ?_
        exact x_sub [1, 2, 3, 0] rfl (ih _ _ _ _ _ hF K)
      · replace hF := ifn hc hF
        refine x_aload_n C dX9_orderLayers_103 0 rfl ?_
        refine gf_X9_84 C 0 rfl rfl dX9_orderLayers_104 ?_
        refine x_iload_n C dX9_orderLayers_107 3 rfl ?_
        obtain ⟨b6, hF⟩ := ck_s hF
        refine x_zald C 21 rfl b6 dX9_orderLayers_108 ?_
        refine x_if_ne (tgt := 129) C dX9_orderLayers_109 (by decide) (fun hc => ?_) (fun hc => ?_)
        · replace hF := ifn hc hF
          refine x_iinc (v := x3 + 1) (lv2 := [(3, .int (x3 + 1)), (0, .ref (q 0)), (1, .int x1), (2, .int x2)]) C dX9_orderLayers_129 3 rfl rfl (by decide) rfl ?_
          refine x_goto (tgt := 76) C dX9_orderLayers_132 (by decide) ?_
          exact x_sub [1, 2, 3, 0] rfl (ih _ _ _ _ _ hF K)
        · replace hF := ifp hc hF
          refine x_aload_n C dX9_orderLayers_112 0 rfl ?_
          refine gf_X9_81 C 0 rfl rfl dX9_orderLayers_113 ?_
          refine x_iload_n C dX9_orderLayers_116 1 rfl ?_
          refine x_iload_n C dX9_orderLayers_117 3 rfl ?_
          obtain ⟨b7, hF⟩ := ck_s hF
          refine x_iast (ws2 := (mw κ q mth mn mib mpa mwi mch mst msz mns mld mps mbb mno mpk mtu mfo mbi mwr mus mnu mli mot mbl mki mfr mde mbe mow mco mpt mle (upd mpl x1.toNatClampNeg x3) mit mro maw)) C 20 rfl b7 dX9_orderLayers_118 rfl ?_
          refine x_aload_n C dX9_orderLayers_119 0 rfl ?_
          refine gf_X9_84 C 0 rfl rfl dX9_orderLayers_120 ?_
          refine x_iload_n C dX9_orderLayers_123 3 rfl ?_
          refine x_iconst (v := 1) C dX9_orderLayers_124 (by decide) ?_
          obtain ⟨b8, hF⟩ := ck_s hF
          refine x_zast (ws2 := (mw κ q mth mn mib mpa mwi mch mst msz mns mld mps mbb mno mpk mtu mfo mbi mwr mus mnu mli mot mbl mki mfr mde mbe mow mco mpt mle (upd mpl x1.toNatClampNeg x3) (upd mit x3.toNatClampNeg (vp_nar .boolean (1 : Int32))) mro maw)) C 21 rfl b8 dX9_orderLayers_125 rfl ?_
          refine x_iinc (v := x1 + 1) (lv2 := [(1, .int (x1 + 1)), (0, .ref (q 0)), (2, .int x2), (3, .int x3)]) C dX9_orderLayers_126 1 rfl rfl (by decide) rfl ?_
          refine x_iinc (v := x3 + 1) (lv2 := [(3, .int (x3 + 1)), (1, .int (x1 + 1)), (0, .ref (q 0)), (2, .int x2)]) C dX9_orderLayers_129 3 rfl rfl (by decide) rfl ?_
          refine x_goto (tgt := 76) C dX9_orderLayers_132 (by decide) ?_
          exact x_sub [2, 1, 3, 0] rfl (ih _ _ _ _ _ hF K)
set_option maxHeartbeats 4000000 in
set_option maxRecDepth 100000 in
theorem w_X9_orderLayers_L42 {κ : xb_k} {Γ : xb_X} {q : Nat → Nat} {mth : Int32} {mn : Int32} {mib : Int32} {mpa : Int32} {mwi : Int32} {mch : Int32} {mst : Int32} {msz : Int32} {mns : Int32} {mld : Int32} {mps : Int32} {mbb : Int32} {mno : (Nat → Int32)} {mpk : (Nat → Int32)} {mtu : (Nat → Int32)} {mfo : (Nat → Int32)} {mbi : (Nat → Int32)} {mwr : (Nat → Int32)} {mus : (Nat → Int32)} {mnu : (Nat → Int32)} {mli : (Nat → Int32)} {mot : (Nat → Int32)} {mbl : (Nat → Int32)} {mki : (Nat → Int32)} {mfr : (Nat → Int32)} {mde : (Nat → Int32)} {mbe : (Nat → Int32)} {mow : (Nat → Int32)} {mco : (Nat → Int32)} {mpt : (Nat → Int32)} {mle : (Nat → Int32)} {mpl : (Nat → Int32)} {mit : (Nat → Int32)} {mro : (Nat → Int32)} {maw : (Nat → Int32)} {x1 : Int32} {x2 : Int32}  (C : xb_C κ Γ 4 cX9_orderLayers RX9 { frames := 0, cells := 0, slots := 0, locals := 0 }) : ∀ (n : Nat) (x3 : Int32) (o : Int32), F_X9_orderLayers_L42 x1 x2 mit n x3 = some o → xb_W κ Γ 4 0 0 57 [(0, .ref (q 0)), (1, .int x1), (2, .int x2), (3, .int o)] [] (mw κ q mth mn mib mpa mwi mch mst msz mns mld mps mbb mno mpk mtu mfo mbi mwr mus mnu mli mot mbl mki mfr mde mbe mow mco mpt mle mpl mit mro maw) → xb_W κ Γ 4 0 0 42 [(0, .ref (q 0)), (1, .int x1), (2, .int x2), (3, .int x3)] [] (mw κ q mth mn mib mpa mwi mch mst msz mns mld mps mbb mno mpk mtu mfo mbi mwr mus mnu mli mot mbl mki mfr mde mbe mow mco mpt mle mpl mit mro maw) := by
  intro n
  induction n with
  | zero =>
    intro x3 o hF K
    rw [F_X9_orderLayers_L42] at hF
    cases hF
  | succ n ih =>
    intro x3 o hF K
    rw [F_X9_orderLayers_L42] at hF
    refine x_aload_n C dX9_orderLayers_42 0 rfl ?_
    refine gf_X9_84 C 0 rfl rfl dX9_orderLayers_43 ?_
    refine x_iload_n C dX9_orderLayers_46 3 rfl ?_
    obtain ⟨b11, hF⟩ := ck_s hF
    refine x_zald C 21 rfl b11 dX9_orderLayers_47 ?_
    refine x_if_eq (tgt := 57) C dX9_orderLayers_48 (by decide) (fun hc => ?_) (fun hc => ?_)
    · replace hF := ifp hc hF
      cases hF
      exact x_sub [0, 1, 2, 3] rfl K
    · replace hF := ifn hc hF
      refine x_iinc (v := x3 + 1) (lv2 := [(3, .int (x3 + 1)), (0, .ref (q 0)), (1, .int x1), (2, .int x2)]) C dX9_orderLayers_51 3 rfl rfl (by decide) rfl ?_
      refine x_goto (tgt := 42) C dX9_orderLayers_54 (by decide) ?_
      exact x_sub [1, 2, 3, 0] rfl (ih _ _ hF K)
set_option maxHeartbeats 4000000 in
set_option maxRecDepth 100000 in
theorem w_X9_orderLayers_L27 {κ : xb_k} {Γ : xb_X} {q : Nat → Nat} {mth : Int32} {mn : Int32} {mib : Int32} {mpa : Int32} {mwi : Int32} {mch : Int32} {mst : Int32} {msz : Int32} {mns : Int32} {mld : Int32} {mps : Int32} {mbb : Int32} {mno : (Nat → Int32)} {mpk : (Nat → Int32)} {mtu : (Nat → Int32)} {mfo : (Nat → Int32)} {mbi : (Nat → Int32)} {mwr : (Nat → Int32)} {mus : (Nat → Int32)} {mnu : (Nat → Int32)} {mli : (Nat → Int32)} {mot : (Nat → Int32)} {mbl : (Nat → Int32)} {mki : (Nat → Int32)} {mfr : (Nat → Int32)} {mde : (Nat → Int32)} {mbe : (Nat → Int32)} {mow : (Nat → Int32)} {mco : (Nat → Int32)} {mpt : (Nat → Int32)} {mle : (Nat → Int32)} {mro : (Nat → Int32)} {maw : (Nat → Int32)}  {fu : Nat} (C : xb_C κ Γ 4 cX9_orderLayers RX9 { frames := 0, cells := 0, slots := 0, locals := 0 }) : ∀ (n : Nat) (x1 : Int32) (x2 : Int32) (mpl : (Nat → Int32)) (mit : (Nat → Int32)) (o : (Nat → Int32) × (Nat → Int32)), F_X9_orderLayers_L27 fu mn mno n x1 x2 mpl mit = some o → xb_W κ Γ 4 0 0 141 [] [] (mw κ q mth mn mib mpa mwi mch mst msz mns mld mps mbb mno mpk mtu mfo mbi mwr mus mnu mli mot mbl mki mfr mde mbe mow mco mpt mle o.1 o.2 mro maw) → xb_W κ Γ 4 0 0 27 [(0, .ref (q 0)), (1, .int x1), (2, .int x2)] [] (mw κ q mth mn mib mpa mwi mch mst msz mns mld mps mbb mno mpk mtu mfo mbi mwr mus mnu mli mot mbl mki mfr mde mbe mow mco mpt mle mpl mit mro maw) := by
  intro n
  induction n with
  | zero =>
    intro x1 x2 mpl mit o hF K
    rw [F_X9_orderLayers_L27] at hF
    cases hF
  | succ n ih =>
    intro x1 x2 mpl mit o hF K
    rw [F_X9_orderLayers_L27] at hF
    refine x_iload_n C dX9_orderLayers_27 2 rfl ?_
    refine x_aload_n C dX9_orderLayers_28 0 rfl ?_
    refine gf_X9_93 C 0 rfl rfl dX9_orderLayers_29 ?_
    refine x_icmp_ge (tgt := 141) C dX9_orderLayers_32 (by decide) (fun hc => ?_) (fun hc => ?_)
    · replace hF := ifp hc hF
      cases hF
      exact x_sub [] rfl K
    · replace hF := ifn hc hF
      refine x_iload_n C dX9_orderLayers_35 2 rfl ?_
      refine x_iload_n C dX9_orderLayers_36 1 rfl ?_
      refine x_icmp_ne (tgt := 74) C dX9_orderLayers_37 (by decide) (fun hc => ?_) (fun hc => ?_)
      · replace hF := ifn hc hF
        refine x_iconst (v := 0) C dX9_orderLayers_74 (by decide) ?_
        refine x_istore_n (lv2 := [(3, .int (0 : Int32)), (0, .ref (q 0)), (1, .int x1), (2, .int x2)]) C dX9_orderLayers_75 rfl (by decide) rfl ?_
        obtain ⟨o4, h5, hF⟩ := bd_s hF
        refine x_sub [1, 2, 3, 0] rfl (w_X9_orderLayers_L76 C fu _ _ _ _ _ h5 ?_)
        refine x_iinc (v := x2 + 1) (lv2 := [(2, .int (x2 + 1)), (0, .ref (q 0)), (1, .int o4.1)]) C dX9_orderLayers_135 2 rfl rfl (by decide) rfl ?_
        refine x_goto (tgt := 27) C dX9_orderLayers_138 (by decide) ?_
        exact x_sub [1, 2, 0] rfl (ih _ _ _ _ _ hF K)
      · replace hF := ifp hc hF
        refine x_iconst (v := 0) C dX9_orderLayers_40 (by decide) ?_
        refine x_istore_n (lv2 := [(3, .int (0 : Int32)), (0, .ref (q 0)), (1, .int x1), (2, .int x2)]) C dX9_orderLayers_41 rfl (by decide) rfl ?_
        obtain ⟨o6, h7, hF⟩ := bd_s hF
        refine x_sub [1, 2, 3, 0] rfl (w_X9_orderLayers_L42 C fu _ _ h7 ?_)
        refine x_aload_n C dX9_orderLayers_57 0 rfl ?_
        refine gf_X9_81 C 0 rfl rfl dX9_orderLayers_58 ?_
        refine x_iload_n C dX9_orderLayers_61 1 rfl ?_
        refine x_iload_n C dX9_orderLayers_62 3 rfl ?_
        obtain ⟨b8, hF⟩ := ck_s hF
        refine x_iast (ws2 := (mw κ q mth mn mib mpa mwi mch mst msz mns mld mps mbb mno mpk mtu mfo mbi mwr mus mnu mli mot mbl mki mfr mde mbe mow mco mpt mle (upd mpl x1.toNatClampNeg o6) mit mro maw)) C 20 rfl b8 dX9_orderLayers_63 rfl ?_
        refine x_aload_n C dX9_orderLayers_64 0 rfl ?_
        refine gf_X9_84 C 0 rfl rfl dX9_orderLayers_65 ?_
        refine x_iload_n C dX9_orderLayers_68 3 rfl ?_
        refine x_iconst (v := 1) C dX9_orderLayers_69 (by decide) ?_
        obtain ⟨b9, hF⟩ := ck_s hF
        refine x_zast (ws2 := (mw κ q mth mn mib mpa mwi mch mst msz mns mld mps mbb mno mpk mtu mfo mbi mwr mus mnu mli mot mbl mki mfr mde mbe mow mco mpt mle (upd mpl x1.toNatClampNeg o6) (upd mit o6.toNatClampNeg (vp_nar .boolean (1 : Int32))) mro maw)) C 21 rfl b9 dX9_orderLayers_70 rfl ?_
        refine x_iinc (v := x1 + 1) (lv2 := [(1, .int (x1 + 1)), (0, .ref (q 0)), (2, .int x2), (3, .int o6)]) C dX9_orderLayers_71 1 rfl rfl (by decide) rfl ?_
        refine x_iconst (v := 0) C dX9_orderLayers_74 (by decide) ?_
        refine x_istore_n (lv2 := [(3, .int (0 : Int32)), (1, .int (x1 + 1)), (0, .ref (q 0)), (2, .int x2)]) C dX9_orderLayers_75 rfl (by decide) rfl ?_
        obtain ⟨o10, h11, hF⟩ := bd_s hF
        refine x_sub [2, 1, 3, 0] rfl (w_X9_orderLayers_L76 C fu _ _ _ _ _ h11 ?_)
        refine x_iinc (v := x2 + 1) (lv2 := [(2, .int (x2 + 1)), (0, .ref (q 0)), (1, .int o10.1)]) C dX9_orderLayers_135 2 rfl rfl (by decide) rfl ?_
        refine x_goto (tgt := 27) C dX9_orderLayers_138 (by decide) ?_
        exact x_sub [1, 2, 0] rfl (ih _ _ _ _ _ hF K)
set_option maxHeartbeats 4000000 in
set_option maxRecDepth 100000 in
theorem c_X9_orderLayers {κ : xb_k} {q : Nat → Nat} {mth : Int32} {mn : Int32} {mib : Int32} {mpa : Int32} {mwi : Int32} {mch : Int32} {mst : Int32} {msz : Int32} {mns : Int32} {mld : Int32} {mps : Int32} {mbb : Int32} {mno : (Nat → Int32)} {mpk : (Nat → Int32)} {mtu : (Nat → Int32)} {mfo : (Nat → Int32)} {mbi : (Nat → Int32)} {mwr : (Nat → Int32)} {mus : (Nat → Int32)} {mnu : (Nat → Int32)} {mli : (Nat → Int32)} {mot : (Nat → Int32)} {mbl : (Nat → Int32)} {mki : (Nat → Int32)} {mfr : (Nat → Int32)} {mde : (Nat → Int32)} {mbe : (Nat → Int32)} {mow : (Nat → Int32)} {mco : (Nat → Int32)} {mpt : (Nat → Int32)} {mle : (Nat → Int32)} {mpl : (Nat → Int32)} {mit : (Nat → Int32)} {mro : (Nat → Int32)} {maw : (Nat → Int32)}  {fu : Nat} {o : (Nat → Int32) × (Nat → Int32)} (hF : F_X9_orderLayers fu mn mit mpl mno = some o) : Met κ.1 yX9_orderLayers [Cond.code yX9_orderLayers cX9_orderLayers 4 none] { frames := 0, cells := 0, slots := 0, locals := 0 } (xb_P κ [.ref (q 0)] (mw κ q mth mn mib mpa mwi mch mst msz mns mld mps mbb mno mpk mtu mfo mbi mwr mus mnu mli mot mbl mki mfr mde mbe mow mco mpt mle mpl mit mro maw)) (xb_Qv κ (mw κ q mth mn mib mpa mwi mch mst msz mns mld mps mbb mno mpk mtu mfo mbi mwr mus mnu mli mot mbl mki mfr mde mbe mow mco mpt mle o.2 o.1 mro maw)) 0 0 κ.2.2.1 := by
  refine x_enter (own := RX9) (lv0 := [(0, .ref (q 0))]) (by decide) rfl rfl rfl (fun Γ C E => ?_)
  unfold F_X9_orderLayers at hF
  refine x_iconst (v := 0) C dX9_orderLayers_0 (by decide) ?_
  refine x_istore_n (lv2 := [(1, .int (0 : Int32)), (0, .ref (q 0))]) C dX9_orderLayers_1 rfl (by decide) rfl ?_
  obtain ⟨o2, h3, hF⟩ := bd_s hF
  refine x_sub [1, 0] rfl (w_X9_orderLayers_L2 C fu _ _ _ h3 ?_)
  refine x_iconst (v := 0) C dX9_orderLayers_23 (by decide) ?_
  refine x_istore_n (lv2 := [(1, .int (0 : Int32)), (0, .ref (q 0))]) C dX9_orderLayers_24 rfl (by decide) rfl ?_
  refine x_iconst (v := 0) C dX9_orderLayers_25 (by decide) ?_
  refine x_istore_n (lv2 := [(2, .int (0 : Int32)), (1, .int (0 : Int32)), (0, .ref (q 0))]) C dX9_orderLayers_26 rfl (by decide) rfl ?_
  obtain ⟨o12, h13, hF⟩ := bd_s hF
  refine x_sub [2, 1, 0] rfl (w_X9_orderLayers_L27 C fu _ _ _ _ _ h13 ?_)
  cases hF
  exact x_vret C E dX9_orderLayers_141
set_option maxHeartbeats 4000000 in
set_option maxRecDepth 100000 in
theorem c_X9_toOrder {κ : xb_k} {q : Nat → Nat} {mth : Int32} {mn : Int32} {mib : Int32} {mpa : Int32} {mwi : Int32} {mch : Int32} {mst : Int32} {msz : Int32} {mns : Int32} {mld : Int32} {mps : Int32} {mbb : Int32} {mno : (Nat → Int32)} {mpk : (Nat → Int32)} {mtu : (Nat → Int32)} {mfo : (Nat → Int32)} {mbi : (Nat → Int32)} {mwr : (Nat → Int32)} {mus : (Nat → Int32)} {mnu : (Nat → Int32)} {mli : (Nat → Int32)} {mot : (Nat → Int32)} {mbl : (Nat → Int32)} {mki : (Nat → Int32)} {mfr : (Nat → Int32)} {mde : (Nat → Int32)} {mbe : (Nat → Int32)} {mow : (Nat → Int32)} {mco : (Nat → Int32)} {mpt : (Nat → Int32)} {mle : (Nat → Int32)} {mpl : (Nat → Int32)} {mit : (Nat → Int32)} {mro : (Nat → Int32)} {maw : (Nat → Int32)} {x1 : Int32} {fu : Nat} {o : (Nat → Int32) × (Nat → Int32)} (hF : F_X9_toOrder fu x1 mn mno mpl mit = some o) : Met κ.1 yX9_toOrder [Cond.code yX9_toOrder cX9_toOrder 2 none] { frames := 2, cells := 0, slots := 0, locals := 50 } (xb_P κ [.ref (q 0), .int x1] (mw κ q mth mn mib mpa mwi mch mst msz mns mld mps mbb mno mpk mtu mfo mbi mwr mus mnu mli mot mbl mki mfr mde mbe mow mco mpt mle mpl mit mro maw)) (xb_Qv κ (mw κ q mth mn mib mpa mwi mch mst msz mns mld mps mbb mno mpk mtu mfo mbi mwr mus mnu mli mot mbl mki mfr mde mbe mow mco mpt mle o.1 o.2 mro maw)) 0 0 κ.2.2.1 := by
  refine x_enter (own := RX9) (lv0 := [(0, .ref (q 0)), (1, .int x1)]) (by decide) rfl rfl rfl (fun Γ C E => ?_)
  unfold F_X9_toOrder at hF
  refine x_iload_n C dX9_toOrder_0 1 rfl ?_
  refine x_iconst (v := 1) C dX9_toOrder_1 (by decide) ?_
  refine x_icmp_ne (tgt := 12) C dX9_toOrder_2 (by decide) (fun hc => ?_) (fun hc => ?_)
  · replace hF := ifn hc hF
    refine x_aload_n C dX9_toOrder_12 0 rfl ?_
    refine x_iload_n C dX9_toOrder_13 1 rfl ?_
    obtain ⟨o1, h2, hF⟩ := bd_s hF
    refine x_callVv (st := []) C (c_X9_orderBy h2) xm_X9_orderBy ml_X9_250 0 rfl rfl rfl rfl rfl rfl dX9_toOrder_14 ⟨rfl, rfl⟩ ?_
    cases hF
    exact x_vret C E dX9_toOrder_17
  · replace hF := ifp hc hF
    refine x_aload_n C dX9_toOrder_5 0 rfl ?_
    obtain ⟨o3, h4, hF⟩ := bd_s hF
    refine x_callVv (st := []) C (c_X9_orderLayers h4) xm_X9_orderLayers ml_X9_247 0 rfl rfl rfl rfl rfl rfl dX9_toOrder_6 ⟨rfl, rfl⟩ ?_
    refine x_goto (tgt := 17) C dX9_toOrder_9 (by decide) ?_
    cases hF
    exact x_vret C E dX9_toOrder_17
set_option maxHeartbeats 4000000 in
set_option maxRecDepth 100000 in
theorem c_X9_order {κ : xb_k} {q : Nat → Nat} {mth : Int32} {mn : Int32} {mib : Int32} {mpa : Int32} {mwi : Int32} {mch : Int32} {mst : Int32} {msz : Int32} {mns : Int32} {mld : Int32} {mps : Int32} {mbb : Int32} {mno : (Nat → Int32)} {mpk : (Nat → Int32)} {mtu : (Nat → Int32)} {mfo : (Nat → Int32)} {mbi : (Nat → Int32)} {mwr : (Nat → Int32)} {mus : (Nat → Int32)} {mnu : (Nat → Int32)} {mli : (Nat → Int32)} {mot : (Nat → Int32)} {mbl : (Nat → Int32)} {mki : (Nat → Int32)} {mfr : (Nat → Int32)} {mde : (Nat → Int32)} {mbe : (Nat → Int32)} {mow : (Nat → Int32)} {mco : (Nat → Int32)} {mpt : (Nat → Int32)} {mle : (Nat → Int32)} {mpl : (Nat → Int32)} {mit : (Nat → Int32)} {mro : (Nat → Int32)} {maw : (Nat → Int32)} {x1 : Int32} {x2 : Int32} {fu : Nat} {o : Int32 × Int32 × (Nat → Int32) × (Nat → Int32)} (hF : F_X9_order fu x1 x2 mth mn mno mpl mit = some o) : Met κ.1 yX9_order [Cond.code yX9_order cX9_order 3 (some .int)] { frames := 3, cells := 0, slots := 0, locals := 71 } (xb_P κ [.ref (q 0), .int x1, .int x2] (mw κ q mth mn mib mpa mwi mch mst msz mns mld mps mbb mno mpk mtu mfo mbi mwr mus mnu mli mot mbl mki mfr mde mbe mow mco mpt mle mpl mit mro maw)) (xb_Qi κ o.1 (mw κ q o.2.1 mn mib mpa mwi mch mst msz mns mld mps mbb mno mpk mtu mfo mbi mwr mus mnu mli mot mbl mki mfr mde mbe mow mco mpt mle o.2.2.1 o.2.2.2 mro maw)) 0 0 κ.2.2.1 := by
  refine x_enter (own := RX9) (lv0 := [(0, .ref (q 0)), (1, .int x1), (2, .int x2)]) (by decide) rfl rfl rfl (fun Γ C E => ?_)
  unfold F_X9_order at hF
  refine x_aload_n C dX9_order_0 0 rfl ?_
  refine x_iconst (v := 0) C dX9_order_1 (by decide) ?_
  refine pf_X9_1 (ws2 := (mw κ q (0 : Int32) mn mib mpa mwi mch mst msz mns mld mps mbb mno mpk mtu mfo mbi mwr mus mnu mli mot mbl mki mfr mde mbe mow mco mpt mle mpl mit mro maw)) C 0 rfl dX9_order_2 rfl rfl ?_
  refine x_iload_n C dX9_order_5 1 rfl ?_
  refine x_i2l C dX9_order_6 ?_
  refine x_lconst (v := 0) C dX9_order_7 (by decide) ?_
  refine x_ldc2 C dX9_order_8 kl_X9_253 ?_
  obtain ⟨o1, h2, hF⟩ := bd_s hF
  refine x_callSi (st := []) C (c_X9_in h2) xm_X9_in ml_X9_96 rfl rfl rfl rfl dX9_order_11 ⟨rfl, rfl⟩ ?_
  refine x_if_ne (tgt := 20) C dX9_order_14 (by decide) (fun hc => ?_) (fun hc => ?_)
  · replace hF := ifn hc hF
    refine x_aload_n C dX9_order_20 0 rfl ?_
    refine x_iload_n C dX9_order_21 1 rfl ?_
    obtain ⟨o3, h4, hF⟩ := bd_s hF
    refine x_callVv (st := []) C (c_X9_toOrder h4) xm_X9_toOrder ml_X9_255 0 rfl rfl rfl rfl rfl rfl dX9_order_22 ⟨rfl, rfl⟩ ?_
    refine x_aload_n C dX9_order_25 0 rfl ?_
    refine x_iload_n C dX9_order_26 2 rfl ?_
    obtain ⟨o5, h6, hF⟩ := bd_s hF
    refine x_callVi (st := []) C (c_X9_isThing h6) xm_X9_isThing ml_X9_107 0 rfl rfl rfl rfl rfl rfl dX9_order_27 ⟨rfl, rfl⟩ ?_
    refine x_if_eq (tgt := 42) C dX9_order_30 (by decide) (fun hc => ?_) (fun hc => ?_)
    · replace hF := ifp hc hF
      refine x_iconst (v := (-1)) C dX9_order_42 (by decide) ?_
      cases hF
      exact x_iret C E dX9_order_43
    · replace hF := ifn hc hF
      refine x_aload_n C dX9_order_33 0 rfl ?_
      refine gf_X9_81 C 0 rfl rfl dX9_order_34 ?_
      refine x_iload_n C dX9_order_37 2 rfl ?_
      obtain ⟨b7, hF⟩ := ck_s hF
      refine x_iald C 20 rfl b7 dX9_order_38 ?_
      refine x_goto (tgt := 43) C dX9_order_39 (by decide) ?_
      cases hF
      exact x_iret C E dX9_order_43
  · replace hF := ifp hc hF
    refine x_bipush (v := (-2)) C dX9_order_17 (by decide) ?_
    cases hF
    exact x_iret C E dX9_order_19
set_option maxHeartbeats 4000000 in
set_option maxRecDepth 100000 in
theorem w_X9_renumber_L37 {κ : xb_k} {Γ : xb_X} {q : Nat → Nat} {mth : Int32} {mn : Int32} {mib : Int32} {mpa : Int32} {mwi : Int32} {mch : Int32} {mst : Int32} {msz : Int32} {mns : Int32} {mld : Int32} {mps : Int32} {mbb : Int32} {mno : (Nat → Int32)} {mpk : (Nat → Int32)} {mfo : (Nat → Int32)} {mbi : (Nat → Int32)} {mwr : (Nat → Int32)} {mus : (Nat → Int32)} {mnu : (Nat → Int32)} {mli : (Nat → Int32)} {mot : (Nat → Int32)} {mbl : (Nat → Int32)} {mki : (Nat → Int32)} {mfr : (Nat → Int32)} {mde : (Nat → Int32)} {mbe : (Nat → Int32)} {mow : (Nat → Int32)} {mco : (Nat → Int32)} {mpt : (Nat → Int32)} {mle : (Nat → Int32)} {mpl : (Nat → Int32)} {mit : (Nat → Int32)} {mro : (Nat → Int32)} {maw : (Nat → Int32)} {x2 : Int32}  (C : xb_C κ Γ 5 cX9_renumber RX9 { frames := 3, cells := 0, slots := 0, locals := 71 }) : ∀ (n : Nat) (x3 : Int32) (mtu : (Nat → Int32)) (o : (Nat → Int32)), F_X9_renumber_L37 x2 mn mpl mno n x3 mtu = some o → xb_W κ Γ 5 0 0 83 [(0, .ref (q 0)), (2, .int x2)] [] (mw κ q mth mn mib mpa mwi mch mst msz mns mld mps mbb mno mpk o mfo mbi mwr mus mnu mli mot mbl mki mfr mde mbe mow mco mpt mle mpl mit mro maw) → xb_W κ Γ 5 0 0 37 [(0, .ref (q 0)), (2, .int x2), (3, .int x3)] [] (mw κ q mth mn mib mpa mwi mch mst msz mns mld mps mbb mno mpk mtu mfo mbi mwr mus mnu mli mot mbl mki mfr mde mbe mow mco mpt mle mpl mit mro maw) := by
  intro n
  induction n with
  | zero =>
    intro x3 mtu o hF K
    rw [F_X9_renumber_L37] at hF
    cases hF
  | succ n ih =>
    intro x3 mtu o hF K
    rw [F_X9_renumber_L37] at hF
    refine x_iload_n C dX9_renumber_37 2 rfl ?_
    refine x_aload_n C dX9_renumber_38 0 rfl ?_
    refine gf_X9_93 C 0 rfl rfl dX9_renumber_39 ?_
    refine x_icmp_ge (tgt := 83) C dX9_renumber_42 (by decide) (fun hc => ?_) (fun hc => ?_)
    · replace hF := ifp hc hF
      cases hF
      exact x_sub [0, 1] rfl K
    · replace hF := ifn hc hF
      refine x_aload_n C dX9_renumber_45 0 rfl ?_
      refine gf_X9_20 C 0 rfl rfl dX9_renumber_46 ?_
      refine x_bipush (v := 48) C dX9_renumber_49 (by decide) ?_
      refine x_iload_n C dX9_renumber_51 1 rfl ?_
      refine x_imul C dX9_renumber_52 ?_
      refine x_iload_n C dX9_renumber_53 2 rfl ?_
      refine x_iadd C dX9_renumber_54 ?_
      refine x_aload_n C dX9_renumber_55 0 rfl ?_
      refine gf_X9_13 C 0 rfl rfl dX9_renumber_56 ?_
      refine x_bipush (v := 48) C dX9_renumber_59 (by decide) ?_
      refine x_aload_n C dX9_renumber_61 0 rfl ?_
      refine gf_X9_81 C 0 rfl rfl dX9_renumber_62 ?_
      refine x_iload_n C dX9_renumber_65 1 rfl ?_
      obtain ⟨b5, hF⟩ := ck_s hF
      refine x_iald C 20 rfl b5 dX9_renumber_66 ?_
      refine x_imul C dX9_renumber_67 ?_
      refine x_aload_n C dX9_renumber_68 0 rfl ?_
      refine gf_X9_81 C 0 rfl rfl dX9_renumber_69 ?_
      refine x_iload_n C dX9_renumber_72 2 rfl ?_
      obtain ⟨b6, hF⟩ := ck_s hF
      refine x_iald C 20 rfl b6 dX9_renumber_73 ?_
      refine x_iadd C dX9_renumber_74 ?_
      obtain ⟨b7, hF⟩ := ck_s hF
      refine x_zald C 1 rfl b7 dX9_renumber_75 ?_
      obtain ⟨b8, hF⟩ := ck_s hF
      refine x_zast (ws2 := (mw κ q mth mn mib mpa mwi mch mst msz mns mld mps mbb mno mpk (upd mtu (((48 : Int32) * x2) + x3).toNatClampNeg (vp_nar .boolean (mno (((48 : Int32) * (mpl x2.toNatClampNeg)) + (mpl x3.toNatClampNeg)).toNatClampNeg))) mfo mbi mwr mus mnu mli mot mbl mki mfr mde mbe mow mco mpt mle mpl mit mro maw)) C 3 rfl b8 dX9_renumber_76 rfl ?_
      refine x_iinc (v := x3 + 1) (lv2 := [(3, .int (x3 + 1)), (0, .ref (q 0)), (2, .int x2)]) C dX9_renumber_77 2 rfl rfl (by decide) rfl ?_
      refine x_goto (tgt := 37) C dX9_renumber_80 (by decide) ?_
      exact x_sub [1, 2, 0] rfl (ih _ _ _ hF K)
set_option maxHeartbeats 4000000 in
set_option maxRecDepth 100000 in
theorem w_X9_renumber_L27 {κ : xb_k} {Γ : xb_X} {q : Nat → Nat} {mth : Int32} {mn : Int32} {mib : Int32} {mpa : Int32} {mwi : Int32} {mch : Int32} {mst : Int32} {msz : Int32} {mns : Int32} {mld : Int32} {mps : Int32} {mbb : Int32} {mno : (Nat → Int32)} {mpk : (Nat → Int32)} {mfo : (Nat → Int32)} {mbi : (Nat → Int32)} {mwr : (Nat → Int32)} {mus : (Nat → Int32)} {mnu : (Nat → Int32)} {mli : (Nat → Int32)} {mot : (Nat → Int32)} {mbl : (Nat → Int32)} {mki : (Nat → Int32)} {mfr : (Nat → Int32)} {mde : (Nat → Int32)} {mbe : (Nat → Int32)} {mow : (Nat → Int32)} {mco : (Nat → Int32)} {mpt : (Nat → Int32)} {mle : (Nat → Int32)} {mpl : (Nat → Int32)} {mit : (Nat → Int32)} {mro : (Nat → Int32)} {maw : (Nat → Int32)}  {fu : Nat} (C : xb_C κ Γ 5 cX9_renumber RX9 { frames := 3, cells := 0, slots := 0, locals := 71 }) : ∀ (n : Nat) (x2 : Int32) (mtu : (Nat → Int32)) (o : (Nat → Int32)), F_X9_renumber_L27 fu mn mpl mno n x2 mtu = some o → xb_W κ Γ 5 0 0 89 [(0, .ref (q 0))] [] (mw κ q mth mn mib mpa mwi mch mst msz mns mld mps mbb mno mpk o mfo mbi mwr mus mnu mli mot mbl mki mfr mde mbe mow mco mpt mle mpl mit mro maw) → xb_W κ Γ 5 0 0 27 [(0, .ref (q 0)), (2, .int x2)] [] (mw κ q mth mn mib mpa mwi mch mst msz mns mld mps mbb mno mpk mtu mfo mbi mwr mus mnu mli mot mbl mki mfr mde mbe mow mco mpt mle mpl mit mro maw) := by
  intro n
  induction n with
  | zero =>
    intro x2 mtu o hF K
    rw [F_X9_renumber_L27] at hF
    cases hF
  | succ n ih =>
    intro x2 mtu o hF K
    rw [F_X9_renumber_L27] at hF
    refine x_iload_n C dX9_renumber_27 1 rfl ?_
    refine x_aload_n C dX9_renumber_28 0 rfl ?_
    refine gf_X9_93 C 0 rfl rfl dX9_renumber_29 ?_
    refine x_icmp_ge (tgt := 89) C dX9_renumber_32 (by decide) (fun hc => ?_) (fun hc => ?_)
    · replace hF := ifp hc hF
      cases hF
      exact x_sub [0] rfl K
    · replace hF := ifn hc hF
      refine x_iconst (v := 0) C dX9_renumber_35 (by decide) ?_
      refine x_istore_n (lv2 := [(3, .int (0 : Int32)), (0, .ref (q 0)), (2, .int x2)]) C dX9_renumber_36 rfl (by decide) rfl ?_
      obtain ⟨o5, h6, hF⟩ := bd_s hF
      refine x_sub [1, 2, 0] rfl (w_X9_renumber_L37 C fu _ _ _ h6 ?_)
      refine x_iinc (v := x2 + 1) (lv2 := [(2, .int (x2 + 1)), (0, .ref (q 0))]) C dX9_renumber_83 1 rfl rfl (by decide) rfl ?_
      refine x_goto (tgt := 27) C dX9_renumber_86 (by decide) ?_
      exact x_sub [1, 0] rfl (ih _ _ _ hF K)
set_option maxHeartbeats 4000000 in
set_option maxRecDepth 100000 in
theorem w_X9_renumber_L104 {κ : xb_k} {Γ : xb_X} {q : Nat → Nat} {mth : Int32} {mn : Int32} {mib : Int32} {mpa : Int32} {mwi : Int32} {mch : Int32} {mst : Int32} {msz : Int32} {mns : Int32} {mld : Int32} {mps : Int32} {mbb : Int32} {mpk : (Nat → Int32)} {mtu : (Nat → Int32)} {mfo : (Nat → Int32)} {mbi : (Nat → Int32)} {mwr : (Nat → Int32)} {mus : (Nat → Int32)} {mnu : (Nat → Int32)} {mli : (Nat → Int32)} {mot : (Nat → Int32)} {mbl : (Nat → Int32)} {mki : (Nat → Int32)} {mfr : (Nat → Int32)} {mde : (Nat → Int32)} {mbe : (Nat → Int32)} {mow : (Nat → Int32)} {mco : (Nat → Int32)} {mpt : (Nat → Int32)} {mle : (Nat → Int32)} {mpl : (Nat → Int32)} {mit : (Nat → Int32)} {mro : (Nat → Int32)} {maw : (Nat → Int32)} {x3 : Int32}  (C : xb_C κ Γ 5 cX9_renumber RX9 { frames := 3, cells := 0, slots := 0, locals := 71 }) : ∀ (n : Nat) (x2 : Int32) (x4 : Int32) (mno : (Nat → Int32)) (o : Int32 × (Nat → Int32)), F_X9_renumber_L104 x3 mn mtu n x2 x4 mno = some o → xb_W κ Γ 5 0 0 172 [(0, .ref (q 0)), (2, .int o.1), (3, .int x3)] [] (mw κ q mth mn mib mpa mwi mch mst msz mns mld mps mbb o.2 mpk mtu mfo mbi mwr mus mnu mli mot mbl mki mfr mde mbe mow mco mpt mle mpl mit mro maw) → xb_W κ Γ 5 0 0 104 [(0, .ref (q 0)), (2, .int x2), (3, .int x3), (4, .int x4)] [] (mw κ q mth mn mib mpa mwi mch mst msz mns mld mps mbb mno mpk mtu mfo mbi mwr mus mnu mli mot mbl mki mfr mde mbe mow mco mpt mle mpl mit mro maw) := by
  intro n
  induction n with
  | zero =>
    intro x2 x4 mno o hF K
    rw [F_X9_renumber_L104] at hF
    cases hF
  | succ n ih =>
    intro x2 x4 mno o hF K
    rw [F_X9_renumber_L104] at hF
    refine x_iload C dX9_renumber_104 3 rfl ?_
    refine x_aload_n C dX9_renumber_106 0 rfl ?_
    refine gf_X9_93 C 0 rfl rfl dX9_renumber_107 ?_
    refine x_icmp_ge (tgt := 172) C dX9_renumber_110 (by decide) (fun hc => ?_) (fun hc => ?_)
    · replace hF := ifp hc hF
      cases hF
      exact x_sub [0, 1, 2] rfl K
    · replace hF := ifn hc hF
      refine x_aload_n C dX9_renumber_113 0 rfl ?_
      refine gf_X9_13 C 0 rfl rfl dX9_renumber_114 ?_
      refine x_bipush (v := 48) C dX9_renumber_117 (by decide) ?_
      refine x_iload_n C dX9_renumber_119 2 rfl ?_
      refine x_imul C dX9_renumber_120 ?_
      refine x_iload C dX9_renumber_121 3 rfl ?_
      refine x_iadd C dX9_renumber_123 ?_
      refine x_aload_n C dX9_renumber_124 0 rfl ?_
      refine gf_X9_20 C 0 rfl rfl dX9_renumber_125 ?_
      refine x_bipush (v := 48) C dX9_renumber_128 (by decide) ?_
      refine x_iload_n C dX9_renumber_130 2 rfl ?_
      refine x_imul C dX9_renumber_131 ?_
      refine x_iload C dX9_renumber_132 3 rfl ?_
      refine x_iadd C dX9_renumber_134 ?_
      obtain ⟨b9, hF⟩ := ck_s hF
      refine x_zald C 3 rfl b9 dX9_renumber_135 ?_
      obtain ⟨b10, hF⟩ := ck_s hF
      refine x_zast (ws2 := (mw κ q mth mn mib mpa mwi mch mst msz mns mld mps mbb (upd mno (((48 : Int32) * x3) + x4).toNatClampNeg (vp_nar .boolean (mtu (((48 : Int32) * x3) + x4).toNatClampNeg))) mpk mtu mfo mbi mwr mus mnu mli mot mbl mki mfr mde mbe mow mco mpt mle mpl mit mro maw)) C 1 rfl b10 dX9_renumber_136 rfl ?_
      refine x_iload_n C dX9_renumber_137 1 rfl ?_
      refine x_iload C dX9_renumber_138 3 rfl ?_
      refine x_iload_n C dX9_renumber_140 2 rfl ?_
      refine x_icmp_ge (tgt := 163) C dX9_renumber_141 (by decide) (fun hc => ?_) (fun hc => ?_)
      · replace hF := ifp hc hF
        refine x_iconst (v := 0) C dX9_renumber_163 (by decide) ?_
        refine x_iadd C dX9_renumber_164 ?_
        refine x_istore_n (lv2 := [(2, .int (x2 + (0 : Int32))), (0, .ref (q 0)), (3, .int x3), (4, .int x4)]) C dX9_renumber_165 rfl (by decide) rfl ?_
        refine x_iinc (v := x4 + 1) (lv2 := [(4, .int (x4 + 1)), (2, .int (x2 + (0 : Int32))), (0, .ref (q 0)), (3, .int x3)]) C dX9_renumber_166 3 rfl rfl (by decide) rfl ?_
        refine x_goto (tgt := 104) C dX9_renumber_169 (by decide) ?_
        exact x_sub [2, 1, 3, 0] rfl (ih _ _ _ _ hF K)
      · replace hF := ifn hc hF
        refine x_aload_n C dX9_renumber_144 0 rfl ?_
        refine gf_X9_13 C 0 rfl rfl dX9_renumber_145 ?_
        refine x_bipush (v := 48) C dX9_renumber_148 (by decide) ?_
        refine x_iload_n C dX9_renumber_150 2 rfl ?_
        refine x_imul C dX9_renumber_151 ?_
        refine x_iload C dX9_renumber_152 3 rfl ?_
        refine x_iadd C dX9_renumber_154 ?_
        obtain ⟨b11, hF⟩ := ck_s hF
        refine x_zald C 1 rfl b11 dX9_renumber_155 ?_
        refine x_if_eq (tgt := 163) C dX9_renumber_156 (by decide) (fun hc => ?_) (fun hc => ?_)
        · replace hF := ifp hc hF
          refine x_iconst (v := 0) C dX9_renumber_163 (by decide) ?_
          refine x_iadd C dX9_renumber_164 ?_
          refine x_istore_n (lv2 := [(2, .int (x2 + (0 : Int32))), (0, .ref (q 0)), (3, .int x3), (4, .int x4)]) C dX9_renumber_165 rfl (by decide) rfl ?_
          refine x_iinc (v := x4 + 1) (lv2 := [(4, .int (x4 + 1)), (2, .int (x2 + (0 : Int32))), (0, .ref (q 0)), (3, .int x3)]) C dX9_renumber_166 3 rfl rfl (by decide) rfl ?_
          refine x_goto (tgt := 104) C dX9_renumber_169 (by decide) ?_
          exact x_sub [2, 1, 3, 0] rfl (ih _ _ _ _ hF K)
        · replace hF := ifn hc hF
          refine x_iconst (v := 1) C dX9_renumber_159 (by decide) ?_
          refine x_goto (tgt := 164) C dX9_renumber_160 (by decide) ?_
          refine x_iadd C dX9_renumber_164 ?_
          refine x_istore_n (lv2 := [(2, .int (x2 + (1 : Int32))), (0, .ref (q 0)), (3, .int x3), (4, .int x4)]) C dX9_renumber_165 rfl (by decide) rfl ?_
          refine x_iinc (v := x4 + 1) (lv2 := [(4, .int (x4 + 1)), (2, .int (x2 + (1 : Int32))), (0, .ref (q 0)), (3, .int x3)]) C dX9_renumber_166 3 rfl rfl (by decide) rfl ?_
          refine x_goto (tgt := 104) C dX9_renumber_169 (by decide) ?_
          exact x_sub [2, 1, 3, 0] rfl (ih _ _ _ _ hF K)
set_option maxHeartbeats 4000000 in
set_option maxRecDepth 100000 in
theorem w_X9_renumber_L93 {κ : xb_k} {Γ : xb_X} {q : Nat → Nat} {mth : Int32} {mn : Int32} {mib : Int32} {mpa : Int32} {mwi : Int32} {mch : Int32} {mst : Int32} {msz : Int32} {mns : Int32} {mld : Int32} {mps : Int32} {mbb : Int32} {mpk : (Nat → Int32)} {mtu : (Nat → Int32)} {mfo : (Nat → Int32)} {mbi : (Nat → Int32)} {mwr : (Nat → Int32)} {mus : (Nat → Int32)} {mnu : (Nat → Int32)} {mli : (Nat → Int32)} {mot : (Nat → Int32)} {mbl : (Nat → Int32)} {mki : (Nat → Int32)} {mfr : (Nat → Int32)} {mde : (Nat → Int32)} {mbe : (Nat → Int32)} {mow : (Nat → Int32)} {mco : (Nat → Int32)} {mpt : (Nat → Int32)} {mle : (Nat → Int32)} {mpl : (Nat → Int32)} {mit : (Nat → Int32)} {mro : (Nat → Int32)} {maw : (Nat → Int32)}  {fu : Nat} (C : xb_C κ Γ 5 cX9_renumber RX9 { frames := 3, cells := 0, slots := 0, locals := 71 }) : ∀ (n : Nat) (x2 : Int32) (x3 : Int32) (mno : (Nat → Int32)) (o : Int32 × (Nat → Int32)), F_X9_renumber_L93 fu mn mtu n x2 x3 mno = some o → xb_W κ Γ 5 0 0 178 [(0, .ref (q 0)), (2, .int o.1)] [] (mw κ q mth mn mib mpa mwi mch mst msz mns mld mps mbb o.2 mpk mtu mfo mbi mwr mus mnu mli mot mbl mki mfr mde mbe mow mco mpt mle mpl mit mro maw) → xb_W κ Γ 5 0 0 93 [(0, .ref (q 0)), (2, .int x2), (3, .int x3)] [] (mw κ q mth mn mib mpa mwi mch mst msz mns mld mps mbb mno mpk mtu mfo mbi mwr mus mnu mli mot mbl mki mfr mde mbe mow mco mpt mle mpl mit mro maw) := by
  intro n
  induction n with
  | zero =>
    intro x2 x3 mno o hF K
    rw [F_X9_renumber_L93] at hF
    cases hF
  | succ n ih =>
    intro x2 x3 mno o hF K
    rw [F_X9_renumber_L93] at hF
    refine x_iload_n C dX9_renumber_93 2 rfl ?_
    refine x_aload_n C dX9_renumber_94 0 rfl ?_
    refine gf_X9_93 C 0 rfl rfl dX9_renumber_95 ?_
    refine x_icmp_ge (tgt := 178) C dX9_renumber_98 (by decide) (fun hc => ?_) (fun hc => ?_)
    · replace hF := ifp hc hF
      cases hF
      exact x_sub [0, 1] rfl K
    · replace hF := ifn hc hF
      refine x_iconst (v := 0) C dX9_renumber_101 (by decide) ?_
      refine x_istore (lv2 := [(4, .int (0 : Int32)), (0, .ref (q 0)), (2, .int x2), (3, .int x3)]) C dX9_renumber_102 (by decide) rfl ?_
      obtain ⟨o9, h10, hF⟩ := bd_s hF
      refine x_sub [1, 2, 3, 0] rfl (w_X9_renumber_L104 C fu _ _ _ _ h10 ?_)
      refine x_iinc (v := x3 + 1) (lv2 := [(3, .int (x3 + 1)), (0, .ref (q 0)), (2, .int o9.1)]) C dX9_renumber_172 2 rfl rfl (by decide) rfl ?_
      refine x_goto (tgt := 93) C dX9_renumber_175 (by decide) ?_
      exact x_sub [1, 2, 0] rfl (ih _ _ _ _ hF K)
set_option maxHeartbeats 4000000 in
set_option maxRecDepth 100000 in
theorem c_X9_renumber {κ : xb_k} {q : Nat → Nat} {mth : Int32} {mn : Int32} {mib : Int32} {mpa : Int32} {mwi : Int32} {mch : Int32} {mst : Int32} {msz : Int32} {mns : Int32} {mld : Int32} {mps : Int32} {mbb : Int32} {mno : (Nat → Int32)} {mpk : (Nat → Int32)} {mtu : (Nat → Int32)} {mfo : (Nat → Int32)} {mbi : (Nat → Int32)} {mwr : (Nat → Int32)} {mus : (Nat → Int32)} {mnu : (Nat → Int32)} {mli : (Nat → Int32)} {mot : (Nat → Int32)} {mbl : (Nat → Int32)} {mki : (Nat → Int32)} {mfr : (Nat → Int32)} {mde : (Nat → Int32)} {mbe : (Nat → Int32)} {mow : (Nat → Int32)} {mco : (Nat → Int32)} {mpt : (Nat → Int32)} {mle : (Nat → Int32)} {mpl : (Nat → Int32)} {mit : (Nat → Int32)} {mro : (Nat → Int32)} {maw : (Nat → Int32)} {x1 : Int32} {fu : Nat} {o : Int32 × Int32 × (Nat → Int32) × (Nat → Int32) × (Nat → Int32) × (Nat → Int32) × Int32 × Int32} (hF : F_X9_renumber fu x1 mth mn mno mpl mit mtu mib mpa = some o) : Met κ.1 yX9_renumber [Cond.code yX9_renumber cX9_renumber 5 (some .int)] { frames := 3, cells := 0, slots := 0, locals := 71 } (xb_P κ [.ref (q 0), .int x1] (mw κ q mth mn mib mpa mwi mch mst msz mns mld mps mbb mno mpk mtu mfo mbi mwr mus mnu mli mot mbl mki mfr mde mbe mow mco mpt mle mpl mit mro maw)) (xb_Qi κ o.1 (mw κ q o.2.1 mn o.2.2.2.2.2.2.1 o.2.2.2.2.2.2.2 mwi mch mst msz mns mld mps mbb o.2.2.2.2.2.1 mpk o.2.2.2.2.1 mfo mbi mwr mus mnu mli mot mbl mki mfr mde mbe mow mco mpt mle o.2.2.1 o.2.2.2.1 mro maw)) 0 0 κ.2.2.1 := by
  refine x_enter (own := RX9) (lv0 := [(0, .ref (q 0)), (1, .int x1)]) (by decide) rfl rfl rfl (fun Γ C E => ?_)
  unfold F_X9_renumber at hF
  refine x_aload_n C dX9_renumber_0 0 rfl ?_
  refine x_iconst (v := 0) C dX9_renumber_1 (by decide) ?_
  refine pf_X9_1 (ws2 := (mw κ q (0 : Int32) mn mib mpa mwi mch mst msz mns mld mps mbb mno mpk mtu mfo mbi mwr mus mnu mli mot mbl mki mfr mde mbe mow mco mpt mle mpl mit mro maw)) C 0 rfl dX9_renumber_2 rfl rfl ?_
  refine x_iload_n C dX9_renumber_5 1 rfl ?_
  refine x_i2l C dX9_renumber_6 ?_
  refine x_lconst (v := 0) C dX9_renumber_7 (by decide) ?_
  refine x_ldc2 C dX9_renumber_8 kl_X9_253 ?_
  obtain ⟨o1, h2, hF⟩ := bd_s hF
  refine x_callSi (st := []) C (c_X9_in h2) xm_X9_in ml_X9_96 rfl rfl rfl rfl dX9_renumber_11 ⟨rfl, rfl⟩ ?_
  refine x_if_ne (tgt := 20) C dX9_renumber_14 (by decide) (fun hc => ?_) (fun hc => ?_)
  · replace hF := ifn hc hF
    refine x_aload_n C dX9_renumber_20 0 rfl ?_
    refine x_iload_n C dX9_renumber_21 1 rfl ?_
    obtain ⟨o3, h4, hF⟩ := bd_s hF
    refine x_callVv (st := []) C (c_X9_toOrder h4) xm_X9_toOrder ml_X9_255 0 rfl rfl rfl rfl rfl rfl dX9_renumber_22 ⟨rfl, rfl⟩ ?_
    refine x_iconst (v := 0) C dX9_renumber_25 (by decide) ?_
    refine x_istore_n (lv2 := [(2, .int (0 : Int32)), (0, .ref (q 0)), (1, .int x1)]) C dX9_renumber_26 rfl (by decide) rfl ?_
    obtain ⟨o7, h8, hF⟩ := bd_s hF
    refine x_sub [1, 0] rfl (w_X9_renumber_L27 C fu _ _ _ h8 ?_)
    refine x_iconst (v := 0) C dX9_renumber_89 (by decide) ?_
    refine x_istore_n (lv2 := [(2, .int (0 : Int32)), (0, .ref (q 0))]) C dX9_renumber_90 rfl (by decide) rfl ?_
    refine x_iconst (v := 0) C dX9_renumber_91 (by decide) ?_
    refine x_istore_n (lv2 := [(3, .int (0 : Int32)), (2, .int (0 : Int32)), (0, .ref (q 0))]) C dX9_renumber_92 rfl (by decide) rfl ?_
    obtain ⟨o11, h12, hF⟩ := bd_s hF
    refine x_sub [2, 1, 0] rfl (w_X9_renumber_L93 C fu _ _ _ _ h12 ?_)
    refine x_aload_n C dX9_renumber_178 0 rfl ?_
    refine x_iconst (v := 0) C dX9_renumber_179 (by decide) ?_
    refine pf_X9_100 (ws2 := (mw κ q (0 : Int32) mn (0 : Int32) mpa mwi mch mst msz mns mld mps mbb o11.2 mpk o7 mfo mbi mwr mus mnu mli mot mbl mki mfr mde mbe mow mco mpt mle o3.1 o3.2 mro maw)) C 0 rfl rfl rfl dX9_renumber_180 rfl rfl ?_
    refine x_aload_n C dX9_renumber_183 0 rfl ?_
    refine x_iconst (v := 0) C dX9_renumber_184 (by decide) ?_
    refine pf_X9_104 (ws2 := (mw κ q (0 : Int32) mn (0 : Int32) (0 : Int32) mwi mch mst msz mns mld mps mbb o11.2 mpk o7 mfo mbi mwr mus mnu mli mot mbl mki mfr mde mbe mow mco mpt mle o3.1 o3.2 mro maw)) C 0 rfl dX9_renumber_185 rfl rfl ?_
    refine x_iload_n C dX9_renumber_188 1 rfl ?_
    cases hF
    exact x_iret C E dX9_renumber_189
  · replace hF := ifp hc hF
    refine x_bipush (v := (-2)) C dX9_renumber_17 (by decide) ?_
    cases hF
    exact x_iret C E dX9_renumber_19
set_option maxHeartbeats 4000000 in
set_option maxRecDepth 100000 in
theorem c_X9_isJoined {κ : xb_k} {q : Nat → Nat} {mth : Int32} {mn : Int32} {mib : Int32} {mpa : Int32} {mwi : Int32} {mch : Int32} {mst : Int32} {msz : Int32} {mns : Int32} {mld : Int32} {mps : Int32} {mbb : Int32} {mno : (Nat → Int32)} {mpk : (Nat → Int32)} {mtu : (Nat → Int32)} {mfo : (Nat → Int32)} {mbi : (Nat → Int32)} {mwr : (Nat → Int32)} {mus : (Nat → Int32)} {mnu : (Nat → Int32)} {mli : (Nat → Int32)} {mot : (Nat → Int32)} {mbl : (Nat → Int32)} {mki : (Nat → Int32)} {mfr : (Nat → Int32)} {mde : (Nat → Int32)} {mbe : (Nat → Int32)} {mow : (Nat → Int32)} {mco : (Nat → Int32)} {mpt : (Nat → Int32)} {mle : (Nat → Int32)} {mpl : (Nat → Int32)} {mit : (Nat → Int32)} {mro : (Nat → Int32)} {maw : (Nat → Int32)} {x1 : Int32} {x2 : Int32}  {o : Int32} (hF : F_X9_isJoined x1 x2 mno = some o) : Met κ.1 yX9_isJoined [Cond.code yX9_isJoined cX9_isJoined 3 (some .boolean)] { frames := 0, cells := 0, slots := 0, locals := 0 } (xb_P κ [.ref (q 0), .int x1, .int x2] (mw κ q mth mn mib mpa mwi mch mst msz mns mld mps mbb mno mpk mtu mfo mbi mwr mus mnu mli mot mbl mki mfr mde mbe mow mco mpt mle mpl mit mro maw)) (xb_Qi κ o (mw κ q mth mn mib mpa mwi mch mst msz mns mld mps mbb mno mpk mtu mfo mbi mwr mus mnu mli mot mbl mki mfr mde mbe mow mco mpt mle mpl mit mro maw)) 0 0 κ.2.2.1 := by
  refine x_enter (own := RX9) (lv0 := [(0, .ref (q 0)), (1, .int x1), (2, .int x2)]) (by decide) rfl rfl rfl (fun Γ C E => ?_)
  unfold F_X9_isJoined at hF
  refine x_aload_n C dX9_isJoined_0 0 rfl ?_
  refine gf_X9_13 C 0 rfl rfl dX9_isJoined_1 ?_
  refine x_bipush (v := 48) C dX9_isJoined_4 (by decide) ?_
  refine x_iload_n C dX9_isJoined_6 1 rfl ?_
  refine x_imul C dX9_isJoined_7 ?_
  refine x_iload_n C dX9_isJoined_8 2 rfl ?_
  refine x_iadd C dX9_isJoined_9 ?_
  obtain ⟨b1, hF⟩ := ck_s hF
  refine x_zald C 1 rfl b1 dX9_isJoined_10 ?_
  refine x_if_ne (tgt := 28) C dX9_isJoined_11 (by decide) (fun hc => ?_) (fun hc => ?_)
  · replace hF := ifn hc hF
    refine x_iconst (v := 1) C dX9_isJoined_28 (by decide) ?_
    refine x_goto (tgt := 33) C dX9_isJoined_29 (by decide) ?_
    cases hF
    exact x_zret C E rfl dX9_isJoined_33
  · replace hF := ifp hc hF
    refine x_aload_n C dX9_isJoined_14 0 rfl ?_
    refine gf_X9_13 C 0 rfl rfl dX9_isJoined_15 ?_
    refine x_bipush (v := 48) C dX9_isJoined_18 (by decide) ?_
    refine x_iload_n C dX9_isJoined_20 2 rfl ?_
    refine x_imul C dX9_isJoined_21 ?_
    refine x_iload_n C dX9_isJoined_22 1 rfl ?_
    refine x_iadd C dX9_isJoined_23 ?_
    obtain ⟨b2, hF⟩ := ck_s hF
    refine x_zald C 1 rfl b2 dX9_isJoined_24 ?_
    refine x_if_eq (tgt := 32) C dX9_isJoined_25 (by decide) (fun hc => ?_) (fun hc => ?_)
    · replace hF := ifp hc hF
      refine x_iconst (v := 0) C dX9_isJoined_32 (by decide) ?_
      cases hF
      exact x_zret C E rfl dX9_isJoined_33
    · replace hF := ifn hc hF
      refine x_iconst (v := 1) C dX9_isJoined_28 (by decide) ?_
      refine x_goto (tgt := 33) C dX9_isJoined_29 (by decide) ?_
      cases hF
      exact x_zret C E rfl dX9_isJoined_33
set_option maxHeartbeats 4000000 in
set_option maxRecDepth 100000 in
theorem w_X9_threes_L34 {κ : xb_k} {Γ : xb_X} {q : Nat → Nat} {mth : Int32} {mn : Int32} {mib : Int32} {mpa : Int32} {mwi : Int32} {mch : Int32} {mst : Int32} {msz : Int32} {mns : Int32} {mld : Int32} {mps : Int32} {mbb : Int32} {mno : (Nat → Int32)} {mpk : (Nat → Int32)} {mtu : (Nat → Int32)} {mfo : (Nat → Int32)} {mbi : (Nat → Int32)} {mwr : (Nat → Int32)} {mus : (Nat → Int32)} {mnu : (Nat → Int32)} {mli : (Nat → Int32)} {mot : (Nat → Int32)} {mbl : (Nat → Int32)} {mki : (Nat → Int32)} {mfr : (Nat → Int32)} {mde : (Nat → Int32)} {mbe : (Nat → Int32)} {mow : (Nat → Int32)} {mco : (Nat → Int32)} {mpt : (Nat → Int32)} {mle : (Nat → Int32)} {mpl : (Nat → Int32)} {mit : (Nat → Int32)} {mro : (Nat → Int32)} {maw : (Nat → Int32)} {x2 : Int32} {x3 : Int32}  (C : xb_C κ Γ 5 cX9_threes RX9 { frames := 1, cells := 0, slots := 0, locals := 22 }) : ∀ (n : Nat) (x1 : Int32) (x4 : Int32) (o : Int32), F_X9_threes_L34 x2 x3 mn mno n x1 x4 = some o → xb_W κ Γ 5 0 0 86 [(0, .ref (q 0)), (1, .int o), (2, .int x2), (3, .int x3)] [] (mw κ q mth mn mib mpa mwi mch mst msz mns mld mps mbb mno mpk mtu mfo mbi mwr mus mnu mli mot mbl mki mfr mde mbe mow mco mpt mle mpl mit mro maw) → xb_W κ Γ 5 0 0 34 [(0, .ref (q 0)), (1, .int x1), (2, .int x2), (3, .int x3), (4, .int x4)] [] (mw κ q mth mn mib mpa mwi mch mst msz mns mld mps mbb mno mpk mtu mfo mbi mwr mus mnu mli mot mbl mki mfr mde mbe mow mco mpt mle mpl mit mro maw) := by
  intro n
  induction n with
  | zero =>
    intro x1 x4 o hF K
    rw [F_X9_threes_L34] at hF
    cases hF
  | succ n ih =>
    intro x1 x4 o hF K
    rw [F_X9_threes_L34] at hF
    refine x_iload C dX9_threes_34 4 rfl ?_
    refine x_aload_n C dX9_threes_36 0 rfl ?_
    refine gf_X9_93 C 0 rfl rfl dX9_threes_37 ?_
    refine x_icmp_ge (tgt := 86) C dX9_threes_40 (by decide) (fun hc => ?_) (fun hc => ?_)
    · replace hF := ifp hc hF
      cases hF
      exact x_sub [0, 1, 2, 3] rfl K
    · replace hF := ifn hc hF
      refine x_aload_n C dX9_threes_43 0 rfl ?_
      refine x_iload_n C dX9_threes_44 2 rfl ?_
      refine x_iload_n C dX9_threes_45 3 rfl ?_
      obtain ⟨o1, h2, hF⟩ := bd_s hF
      refine x_callVi (st := []) C (c_X9_isJoined h2) xm_X9_isJoined ml_X9_258 0 rfl rfl rfl rfl rfl rfl dX9_threes_46 ⟨rfl, rfl⟩ ?_
      refine x_if_eq (tgt := 86) C dX9_threes_49 (by decide) (fun hc => ?_) (fun hc => ?_)
      · replace hF := ifp hc hF
        cases hF
        exact x_sub [0, 1, 2, 3] rfl K
      · replace hF := ifn hc hF
        refine x_iload_n C dX9_threes_52 1 rfl ?_
        refine x_aload_n C dX9_threes_53 0 rfl ?_
        refine x_iload_n C dX9_threes_54 2 rfl ?_
        refine x_iload C dX9_threes_55 4 rfl ?_
        obtain ⟨o3, h4, hF⟩ := bd_s hF
        refine x_callVi (st := [.int x1]) C (c_X9_isJoined h4) xm_X9_isJoined ml_X9_258 0 rfl rfl rfl rfl rfl rfl dX9_threes_57 ⟨rfl, rfl⟩ ?_
        refine x_if_eq (tgt := 77) C dX9_threes_60 (by decide) (fun hc => ?_) (fun hc => ?_)
        · replace hF := ifp hc hF
          refine x_iconst (v := 0) C dX9_threes_77 (by decide) ?_
          refine x_iadd C dX9_threes_78 ?_
          refine x_istore_n (lv2 := [(1, .int (x1 + (0 : Int32))), (0, .ref (q 0)), (2, .int x2), (3, .int x3), (4, .int x4)]) C dX9_threes_79 rfl (by decide) rfl ?_
          refine x_iinc (v := x4 + 1) (lv2 := [(4, .int (x4 + 1)), (1, .int (x1 + (0 : Int32))), (0, .ref (q 0)), (2, .int x2), (3, .int x3)]) C dX9_threes_80 4 rfl rfl (by decide) rfl ?_
          refine x_goto (tgt := 34) C dX9_threes_83 (by decide) ?_
          exact x_sub [2, 1, 3, 4, 0] rfl (ih _ _ _ hF K)
        · replace hF := ifn hc hF
          refine x_aload_n C dX9_threes_63 0 rfl ?_
          refine x_iload_n C dX9_threes_64 3 rfl ?_
          refine x_iload C dX9_threes_65 4 rfl ?_
          obtain ⟨o5, h6, hF⟩ := bd_s hF
          refine x_callVi (st := [.int x1]) C (c_X9_isJoined h6) xm_X9_isJoined ml_X9_258 0 rfl rfl rfl rfl rfl rfl dX9_threes_67 ⟨rfl, rfl⟩ ?_
          refine x_if_eq (tgt := 77) C dX9_threes_70 (by decide) (fun hc => ?_) (fun hc => ?_)
          · replace hF := ifp hc hF
            refine x_iconst (v := 0) C dX9_threes_77 (by decide) ?_
            refine x_iadd C dX9_threes_78 ?_
            refine x_istore_n (lv2 := [(1, .int (x1 + (0 : Int32))), (0, .ref (q 0)), (2, .int x2), (3, .int x3), (4, .int x4)]) C dX9_threes_79 rfl (by decide) rfl ?_
            refine x_iinc (v := x4 + 1) (lv2 := [(4, .int (x4 + 1)), (1, .int (x1 + (0 : Int32))), (0, .ref (q 0)), (2, .int x2), (3, .int x3)]) C dX9_threes_80 4 rfl rfl (by decide) rfl ?_
            refine x_goto (tgt := 34) C dX9_threes_83 (by decide) ?_
            exact x_sub [2, 1, 3, 4, 0] rfl (ih _ _ _ hF K)
          · replace hF := ifn hc hF
            refine x_iconst (v := 1) C dX9_threes_73 (by decide) ?_
            refine x_goto (tgt := 78) C dX9_threes_74 (by decide) ?_
            refine x_iadd C dX9_threes_78 ?_
            refine x_istore_n (lv2 := [(1, .int (x1 + (1 : Int32))), (0, .ref (q 0)), (2, .int x2), (3, .int x3), (4, .int x4)]) C dX9_threes_79 rfl (by decide) rfl ?_
            refine x_iinc (v := x4 + 1) (lv2 := [(4, .int (x4 + 1)), (1, .int (x1 + (1 : Int32))), (0, .ref (q 0)), (2, .int x2), (3, .int x3)]) C dX9_threes_80 4 rfl rfl (by decide) rfl ?_
            refine x_goto (tgt := 34) C dX9_threes_83 (by decide) ?_
            exact x_sub [2, 1, 3, 4, 0] rfl (ih _ _ _ hF K)
set_option maxHeartbeats 4000000 in
set_option maxRecDepth 100000 in
theorem w_X9_threes_L21 {κ : xb_k} {Γ : xb_X} {q : Nat → Nat} {mth : Int32} {mn : Int32} {mib : Int32} {mpa : Int32} {mwi : Int32} {mch : Int32} {mst : Int32} {msz : Int32} {mns : Int32} {mld : Int32} {mps : Int32} {mbb : Int32} {mno : (Nat → Int32)} {mpk : (Nat → Int32)} {mtu : (Nat → Int32)} {mfo : (Nat → Int32)} {mbi : (Nat → Int32)} {mwr : (Nat → Int32)} {mus : (Nat → Int32)} {mnu : (Nat → Int32)} {mli : (Nat → Int32)} {mot : (Nat → Int32)} {mbl : (Nat → Int32)} {mki : (Nat → Int32)} {mfr : (Nat → Int32)} {mde : (Nat → Int32)} {mbe : (Nat → Int32)} {mow : (Nat → Int32)} {mco : (Nat → Int32)} {mpt : (Nat → Int32)} {mle : (Nat → Int32)} {mpl : (Nat → Int32)} {mit : (Nat → Int32)} {mro : (Nat → Int32)} {maw : (Nat → Int32)} {x2 : Int32} {fu : Nat} (C : xb_C κ Γ 5 cX9_threes RX9 { frames := 1, cells := 0, slots := 0, locals := 22 }) : ∀ (n : Nat) (x1 : Int32) (x3 : Int32) (o : Int32), F_X9_threes_L21 fu x2 mn mno n x1 x3 = some o → xb_W κ Γ 5 0 0 92 [(0, .ref (q 0)), (1, .int o), (2, .int x2)] [] (mw κ q mth mn mib mpa mwi mch mst msz mns mld mps mbb mno mpk mtu mfo mbi mwr mus mnu mli mot mbl mki mfr mde mbe mow mco mpt mle mpl mit mro maw) → xb_W κ Γ 5 0 0 21 [(0, .ref (q 0)), (1, .int x1), (2, .int x2), (3, .int x3)] [] (mw κ q mth mn mib mpa mwi mch mst msz mns mld mps mbb mno mpk mtu mfo mbi mwr mus mnu mli mot mbl mki mfr mde mbe mow mco mpt mle mpl mit mro maw) := by
  intro n
  induction n with
  | zero =>
    intro x1 x3 o hF K
    rw [F_X9_threes_L21] at hF
    cases hF
  | succ n ih =>
    intro x1 x3 o hF K
    rw [F_X9_threes_L21] at hF
    refine x_iload_n C dX9_threes_21 3 rfl ?_
    refine x_aload_n C dX9_threes_22 0 rfl ?_
    refine gf_X9_93 C 0 rfl rfl dX9_threes_23 ?_
    refine x_icmp_ge (tgt := 92) C dX9_threes_26 (by decide) (fun hc => ?_) (fun hc => ?_)
    · replace hF := ifp hc hF
      cases hF
      exact x_sub [0, 1, 2] rfl K
    · replace hF := ifn hc hF
      refine x_iload_n C dX9_threes_29 3 rfl ?_
      refine x_iconst (v := 1) C dX9_threes_30 (by decide) ?_
      refine x_iadd C dX9_threes_31 ?_
      refine x_istore (lv2 := [(4, .int (x3 + (1 : Int32))), (0, .ref (q 0)), (1, .int x1), (2, .int x2), (3, .int x3)]) C dX9_threes_32 (by decide) rfl ?_
      obtain ⟨o1, h2, hF⟩ := bd_s hF
      refine x_sub [1, 2, 3, 4, 0] rfl (w_X9_threes_L34 C fu _ _ _ h2 ?_)
      refine x_iinc (v := x3 + 1) (lv2 := [(3, .int (x3 + 1)), (0, .ref (q 0)), (1, .int o1), (2, .int x2)]) C dX9_threes_86 3 rfl rfl (by decide) rfl ?_
      refine x_goto (tgt := 21) C dX9_threes_89 (by decide) ?_
      exact x_sub [1, 2, 3, 0] rfl (ih _ _ _ hF K)
set_option maxHeartbeats 4000000 in
set_option maxRecDepth 100000 in
theorem w_X9_threes_L9 {κ : xb_k} {Γ : xb_X} {q : Nat → Nat} {mth : Int32} {mn : Int32} {mib : Int32} {mpa : Int32} {mwi : Int32} {mch : Int32} {mst : Int32} {msz : Int32} {mns : Int32} {mld : Int32} {mps : Int32} {mbb : Int32} {mno : (Nat → Int32)} {mpk : (Nat → Int32)} {mtu : (Nat → Int32)} {mfo : (Nat → Int32)} {mbi : (Nat → Int32)} {mwr : (Nat → Int32)} {mus : (Nat → Int32)} {mnu : (Nat → Int32)} {mli : (Nat → Int32)} {mot : (Nat → Int32)} {mbl : (Nat → Int32)} {mki : (Nat → Int32)} {mfr : (Nat → Int32)} {mde : (Nat → Int32)} {mbe : (Nat → Int32)} {mow : (Nat → Int32)} {mco : (Nat → Int32)} {mpt : (Nat → Int32)} {mle : (Nat → Int32)} {mpl : (Nat → Int32)} {mit : (Nat → Int32)} {mro : (Nat → Int32)} {maw : (Nat → Int32)}  {fu : Nat} (C : xb_C κ Γ 5 cX9_threes RX9 { frames := 1, cells := 0, slots := 0, locals := 22 }) : ∀ (n : Nat) (x1 : Int32) (x2 : Int32) (o : Int32), F_X9_threes_L9 fu mn mno n x1 x2 = some o → xb_W κ Γ 5 0 0 98 [(1, .int o)] [] (mw κ q mth mn mib mpa mwi mch mst msz mns mld mps mbb mno mpk mtu mfo mbi mwr mus mnu mli mot mbl mki mfr mde mbe mow mco mpt mle mpl mit mro maw) → xb_W κ Γ 5 0 0 9 [(0, .ref (q 0)), (1, .int x1), (2, .int x2)] [] (mw κ q mth mn mib mpa mwi mch mst msz mns mld mps mbb mno mpk mtu mfo mbi mwr mus mnu mli mot mbl mki mfr mde mbe mow mco mpt mle mpl mit mro maw) := by
  intro n
  induction n with
  | zero =>
    intro x1 x2 o hF K
    rw [F_X9_threes_L9] at hF
    cases hF
  | succ n ih =>
    intro x1 x2 o hF K
    rw [F_X9_threes_L9] at hF
    refine x_iload_n C dX9_threes_9 2 rfl ?_
    refine x_aload_n C dX9_threes_10 0 rfl ?_
    refine gf_X9_93 C 0 rfl rfl dX9_threes_11 ?_
    refine x_icmp_ge (tgt := 98) C dX9_threes_14 (by decide) (fun hc => ?_) (fun hc => ?_)
    · replace hF := ifp hc hF
      cases hF
      exact x_sub [1] rfl K
    · replace hF := ifn hc hF
      refine x_iload_n C dX9_threes_17 2 rfl ?_
      refine x_iconst (v := 1) C dX9_threes_18 (by decide) ?_
      refine x_iadd C dX9_threes_19 ?_
      refine x_istore_n (lv2 := [(3, .int (x2 + (1 : Int32))), (0, .ref (q 0)), (1, .int x1), (2, .int x2)]) C dX9_threes_20 rfl (by decide) rfl ?_
      obtain ⟨o1, h2, hF⟩ := bd_s hF
      refine x_sub [1, 2, 3, 0] rfl (w_X9_threes_L21 C fu _ _ _ h2 ?_)
      refine x_iinc (v := x2 + 1) (lv2 := [(2, .int (x2 + 1)), (0, .ref (q 0)), (1, .int o1)]) C dX9_threes_92 2 rfl rfl (by decide) rfl ?_
      refine x_goto (tgt := 9) C dX9_threes_95 (by decide) ?_
      exact x_sub [1, 2, 0] rfl (ih _ _ _ hF K)
set_option maxHeartbeats 4000000 in
set_option maxRecDepth 100000 in
theorem c_X9_threes {κ : xb_k} {q : Nat → Nat} {mth : Int32} {mn : Int32} {mib : Int32} {mpa : Int32} {mwi : Int32} {mch : Int32} {mst : Int32} {msz : Int32} {mns : Int32} {mld : Int32} {mps : Int32} {mbb : Int32} {mno : (Nat → Int32)} {mpk : (Nat → Int32)} {mtu : (Nat → Int32)} {mfo : (Nat → Int32)} {mbi : (Nat → Int32)} {mwr : (Nat → Int32)} {mus : (Nat → Int32)} {mnu : (Nat → Int32)} {mli : (Nat → Int32)} {mot : (Nat → Int32)} {mbl : (Nat → Int32)} {mki : (Nat → Int32)} {mfr : (Nat → Int32)} {mde : (Nat → Int32)} {mbe : (Nat → Int32)} {mow : (Nat → Int32)} {mco : (Nat → Int32)} {mpt : (Nat → Int32)} {mle : (Nat → Int32)} {mpl : (Nat → Int32)} {mit : (Nat → Int32)} {mro : (Nat → Int32)} {maw : (Nat → Int32)}  {fu : Nat} {o : Int32 × Int32} (hF : F_X9_threes fu mth mn mno = some o) : Met κ.1 yX9_threes [Cond.code yX9_threes cX9_threes 5 (some .int)] { frames := 1, cells := 0, slots := 0, locals := 22 } (xb_P κ [.ref (q 0)] (mw κ q mth mn mib mpa mwi mch mst msz mns mld mps mbb mno mpk mtu mfo mbi mwr mus mnu mli mot mbl mki mfr mde mbe mow mco mpt mle mpl mit mro maw)) (xb_Qi κ o.1 (mw κ q o.2 mn mib mpa mwi mch mst msz mns mld mps mbb mno mpk mtu mfo mbi mwr mus mnu mli mot mbl mki mfr mde mbe mow mco mpt mle mpl mit mro maw)) 0 0 κ.2.2.1 := by
  refine x_enter (own := RX9) (lv0 := [(0, .ref (q 0))]) (by decide) rfl rfl rfl (fun Γ C E => ?_)
  unfold F_X9_threes at hF
  refine x_aload_n C dX9_threes_0 0 rfl ?_
  refine x_iconst (v := 0) C dX9_threes_1 (by decide) ?_
  refine pf_X9_1 (ws2 := (mw κ q (0 : Int32) mn mib mpa mwi mch mst msz mns mld mps mbb mno mpk mtu mfo mbi mwr mus mnu mli mot mbl mki mfr mde mbe mow mco mpt mle mpl mit mro maw)) C 0 rfl dX9_threes_2 rfl rfl ?_
  refine x_iconst (v := 0) C dX9_threes_5 (by decide) ?_
  refine x_istore_n (lv2 := [(1, .int (0 : Int32)), (0, .ref (q 0))]) C dX9_threes_6 rfl (by decide) rfl ?_
  refine x_iconst (v := 0) C dX9_threes_7 (by decide) ?_
  refine x_istore_n (lv2 := [(2, .int (0 : Int32)), (1, .int (0 : Int32)), (0, .ref (q 0))]) C dX9_threes_8 rfl (by decide) rfl ?_
  obtain ⟨o3, h4, hF⟩ := bd_s hF
  refine x_sub [2, 1, 0] rfl (w_X9_threes_L9 C fu _ _ _ h4 ?_)
  refine x_iload_n C dX9_threes_98 0 rfl ?_
  cases hF
  exact x_iret C E dX9_threes_99

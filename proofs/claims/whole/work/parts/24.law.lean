theorem lg_self (r : Int64) : lg_cmp r r = 0 := by
  unfold lg_cmp
  rw [if_neg (by simp), if_pos rfl]
theorem nI_add' (a b : Nat) : nI a + nI b = nI (a + b) := nI_add a b
theorem law_gt {L j : Nat} (hL : L ≤ 2049) (hj : j < 3000) (h : L < j + 4) : nI L - 4 < nI j := by
  rw [Int32.lt_iff_toInt_lt, show (4 : Int32) = nI 4 from rfl, pk_sub_toInt (by omega) (by omega), nI_toInt (by omega)]
  omega
set_option maxHeartbeats 4000000 in
set_option maxRecDepth 100000 in
theorem lc_pair {κ : xb_k} {Γ : xb_X} {cells slots : Nat} {b L nn j fu : Nat} {xs : Nat → Int32} {q q2 : Nat → Nat} {X : XS} {M : MS} {Rel : Nat → XS → MS → Prop} (C : xb_C κ Γ 4 cL_law RL room_1) (hX : va_X b L xs Γ.2.2.2.1 Γ.2.2.2.1.heap) (hbl : b < Γ.2.2.2.1.heap.size) (hbA : ¬ κ.2.2.1 b) (hL : L ≤ 2049) (hj : j + 3 < L) (hf : Nat.ble cells 600000 = true ∧ Nat.ble slots 7302249 = true) (hR : Rel nn X M) (H : OK_pair fu Rel) (K : ∀ (X2 : XS) (M2 : MS), Rel nn X2 M2 → xb_W κ Γ 4 cells slots 923 [(0, .ref b), (1, .ref (q 0)), (2, .ref (q2 0)), (3, .int (nI j))] [] (xwS κ q nn X2 ++ mwS κ q2 M2)) : xb_W κ Γ 4 cells slots 168 [(0, .ref b), (1, .ref (q 0)), (2, .ref (q2 0)), (3, .int (nI j))] [] (xwS κ q nn X ++ mwS κ q2 M) := by
  refine x_aload_n C dL_law_168 1 rfl ?_
  refine x_aload_n C dL_law_169 0 rfl ?_
  refine x_iload_n C dL_law_170 3 rfl ?_
  refine x_iconst (v := 1) C dL_law_171 (by decide) ?_
  refine x_iadd C dL_law_172 ?_
  refine x_topi (y := nI (j + 1)) (nI_add j 1).symm ?_
  refine x_sld C hX hbl hbA (vp_in_nI (by omega) (by omega)) dL_law_173 ?_
  refine x_aload_n C dL_law_174 0 rfl ?_
  refine x_iload_n C dL_law_175 3 rfl ?_
  refine x_iconst (v := 2) C dL_law_176 (by decide) ?_
  refine x_iadd C dL_law_177 ?_
  refine x_topi (y := nI (j + 2)) (nI_add j 2).symm ?_
  refine x_sld C hX hbl hbA (vp_in_nI (by omega) (by omega)) dL_law_178 ?_
  obtain ⟨r, X2, M2, hx, hm, hR2⟩ := H nn X M (xs (nI (j + 1)).toNatClampNeg) (xs (nI (j + 2)).toNatClampNeg) hR
  refine x_callLi (st := []) (As := [.int (xs (nI (j + 1)).toNatClampNeg), .int (xs (nI (j + 2)).toNatClampNeg)]) (wX := xwS κ q nn X) (wX2 := xwS κ q nn X2) C (cX_pair (κ := (κ.1, κ.2.1, adr (xwS κ q nn X), κ.2.2.2)) hx) xm_X8_pair ml_L_21 0 rfl rfl rfl rfl rfl rfl dL_law_179 hf ?_
  refine x_aload_n C dL_law_182 2 rfl ?_
  refine x_aload_n C dL_law_183 0 rfl ?_
  refine x_iload_n C dL_law_184 3 rfl ?_
  refine x_iconst (v := 1) C dL_law_185 (by decide) ?_
  refine x_iadd C dL_law_186 ?_
  refine x_topi (y := nI (j + 1)) (nI_add j 1).symm ?_
  refine x_sld C hX hbl hbA (vp_in_nI (by omega) (by omega)) dL_law_187 ?_
  refine x_aload_n C dL_law_188 0 rfl ?_
  refine x_iload_n C dL_law_189 3 rfl ?_
  refine x_iconst (v := 2) C dL_law_190 (by decide) ?_
  refine x_iadd C dL_law_191 ?_
  refine x_topi (y := nI (j + 2)) (nI_add j 2).symm ?_
  refine x_sld C hX hbl hbA (vp_in_nI (by omega) (by omega)) dL_law_192 ?_
  refine x_swap ?_
  refine x_callLi (st := [.int r]) (As := [.int (xs (nI (j + 1)).toNatClampNeg), .int (xs (nI (j + 2)).toNatClampNeg)]) (wX := mwS κ q2 M) (wX2 := mwS κ q2 M2) C (cM_pair (κ := (κ.1, κ.2.1, adr (mwS κ q2 M), κ.2.2.2)) hm) xm_X9_pair ml_L_25 0 rfl rfl rfl rfl rfl rfl dL_law_193 hf ?_
  refine x_swap ?_
  refine x_icmp_eq (tgt := 923) C dL_law_196 (by decide) (fun hc => ?_) (fun hc => absurd rfl hc)
  exact K X2 M2 hR2
set_option maxHeartbeats 4000000 in
set_option maxRecDepth 100000 in
theorem lc_drop {κ : xb_k} {Γ : xb_X} {cells slots : Nat} {b L nn j fu : Nat} {xs : Nat → Int32} {q q2 : Nat → Nat} {X : XS} {M : MS} {Rel : Nat → XS → MS → Prop} (C : xb_C κ Γ 4 cL_law RL room_1) (hX : va_X b L xs Γ.2.2.2.1 Γ.2.2.2.1.heap) (hbl : b < Γ.2.2.2.1.heap.size) (hbA : ¬ κ.2.2.1 b) (hL : L ≤ 2049) (hj : j + 3 < L) (hf : Nat.ble cells 600000 = true ∧ Nat.ble slots 7302249 = true) (hR : Rel nn X M) (H : OK_drop fu Rel) (K : ∀ (X2 : XS) (M2 : MS), Rel nn X2 M2 → xb_W κ Γ 4 cells slots 923 [(0, .ref b), (1, .ref (q 0)), (2, .ref (q2 0)), (3, .int (nI j))] [] (xwS κ q nn X2 ++ mwS κ q2 M2)) : xb_W κ Γ 4 cells slots 201 [(0, .ref b), (1, .ref (q 0)), (2, .ref (q2 0)), (3, .int (nI j))] [] (xwS κ q nn X ++ mwS κ q2 M) := by
  refine x_aload_n C dL_law_201 1 rfl ?_
  refine x_aload_n C dL_law_202 0 rfl ?_
  refine x_iload_n C dL_law_203 3 rfl ?_
  refine x_iconst (v := 1) C dL_law_204 (by decide) ?_
  refine x_iadd C dL_law_205 ?_
  refine x_topi (y := nI (j + 1)) (nI_add j 1).symm ?_
  refine x_sld C hX hbl hbA (vp_in_nI (by omega) (by omega)) dL_law_206 ?_
  refine x_aload_n C dL_law_207 0 rfl ?_
  refine x_iload_n C dL_law_208 3 rfl ?_
  refine x_iconst (v := 2) C dL_law_209 (by decide) ?_
  refine x_iadd C dL_law_210 ?_
  refine x_topi (y := nI (j + 2)) (nI_add j 2).symm ?_
  refine x_sld C hX hbl hbA (vp_in_nI (by omega) (by omega)) dL_law_211 ?_
  obtain ⟨r, X2, M2, hx, hm, hR2⟩ := H nn X M (xs (nI (j + 1)).toNatClampNeg) (xs (nI (j + 2)).toNatClampNeg) hR
  refine x_callLi (st := []) (As := [.int (xs (nI (j + 1)).toNatClampNeg), .int (xs (nI (j + 2)).toNatClampNeg)]) (wX := xwS κ q nn X) (wX2 := xwS κ q nn X2) C (cX_drop (κ := (κ.1, κ.2.1, adr (xwS κ q nn X), κ.2.2.2)) hx) xm_X8_drop ml_L_26 0 rfl rfl rfl rfl rfl rfl dL_law_212 hf ?_
  refine x_aload_n C dL_law_215 2 rfl ?_
  refine x_aload_n C dL_law_216 0 rfl ?_
  refine x_iload_n C dL_law_217 3 rfl ?_
  refine x_iconst (v := 1) C dL_law_218 (by decide) ?_
  refine x_iadd C dL_law_219 ?_
  refine x_topi (y := nI (j + 1)) (nI_add j 1).symm ?_
  refine x_sld C hX hbl hbA (vp_in_nI (by omega) (by omega)) dL_law_220 ?_
  refine x_aload_n C dL_law_221 0 rfl ?_
  refine x_iload_n C dL_law_222 3 rfl ?_
  refine x_iconst (v := 2) C dL_law_223 (by decide) ?_
  refine x_iadd C dL_law_224 ?_
  refine x_topi (y := nI (j + 2)) (nI_add j 2).symm ?_
  refine x_sld C hX hbl hbA (vp_in_nI (by omega) (by omega)) dL_law_225 ?_
  refine x_swap ?_
  refine x_callLi (st := [.int r]) (As := [.int (xs (nI (j + 1)).toNatClampNeg), .int (xs (nI (j + 2)).toNatClampNeg)]) (wX := mwS κ q2 M) (wX2 := mwS κ q2 M2) C (cM_drop (κ := (κ.1, κ.2.1, adr (mwS κ q2 M), κ.2.2.2)) hm) xm_X9_drop ml_L_29 0 rfl rfl rfl rfl rfl rfl dL_law_226 hf ?_
  refine x_swap ?_
  refine x_icmp_eq (tgt := 923) C dL_law_229 (by decide) (fun hc => ?_) (fun hc => absurd rfl hc)
  exact K X2 M2 hR2
set_option maxHeartbeats 4000000 in
set_option maxRecDepth 100000 in
theorem lc_has {κ : xb_k} {Γ : xb_X} {cells slots : Nat} {b L nn j fu : Nat} {xs : Nat → Int32} {q q2 : Nat → Nat} {X : XS} {M : MS} {Rel : Nat → XS → MS → Prop} (C : xb_C κ Γ 4 cL_law RL room_1) (hX : va_X b L xs Γ.2.2.2.1 Γ.2.2.2.1.heap) (hbl : b < Γ.2.2.2.1.heap.size) (hbA : ¬ κ.2.2.1 b) (hL : L ≤ 2049) (hj : j + 3 < L) (hf : Nat.ble cells 600000 = true ∧ Nat.ble slots 7302249 = true) (hR : Rel nn X M) (H : OK_has fu Rel) (K : ∀ (X2 : XS) (M2 : MS), Rel nn X2 M2 → xb_W κ Γ 4 cells slots 923 [(0, .ref b), (1, .ref (q 0)), (2, .ref (q2 0)), (3, .int (nI j))] [] (xwS κ q nn X2 ++ mwS κ q2 M2)) : xb_W κ Γ 4 cells slots 234 [(0, .ref b), (1, .ref (q 0)), (2, .ref (q2 0)), (3, .int (nI j))] [] (xwS κ q nn X ++ mwS κ q2 M) := by
  refine x_aload_n C dL_law_234 1 rfl ?_
  refine x_aload_n C dL_law_235 0 rfl ?_
  refine x_iload_n C dL_law_236 3 rfl ?_
  refine x_iconst (v := 1) C dL_law_237 (by decide) ?_
  refine x_iadd C dL_law_238 ?_
  refine x_topi (y := nI (j + 1)) (nI_add j 1).symm ?_
  refine x_sld C hX hbl hbA (vp_in_nI (by omega) (by omega)) dL_law_239 ?_
  refine x_aload_n C dL_law_240 0 rfl ?_
  refine x_iload_n C dL_law_241 3 rfl ?_
  refine x_iconst (v := 2) C dL_law_242 (by decide) ?_
  refine x_iadd C dL_law_243 ?_
  refine x_topi (y := nI (j + 2)) (nI_add j 2).symm ?_
  refine x_sld C hX hbl hbA (vp_in_nI (by omega) (by omega)) dL_law_244 ?_
  obtain ⟨r, X2, M2, hx, hm, hR2⟩ := H nn X M (xs (nI (j + 1)).toNatClampNeg) (xs (nI (j + 2)).toNatClampNeg) hR
  refine x_callLi (st := []) (As := [.int (xs (nI (j + 1)).toNatClampNeg), .int (xs (nI (j + 2)).toNatClampNeg)]) (wX := xwS κ q nn X) (wX2 := xwS κ q nn X2) C (cX_has (κ := (κ.1, κ.2.1, adr (xwS κ q nn X), κ.2.2.2)) hx) xm_X8_has ml_L_30 0 rfl rfl rfl rfl rfl rfl dL_law_245 hf ?_
  refine x_aload_n C dL_law_248 2 rfl ?_
  refine x_aload_n C dL_law_249 0 rfl ?_
  refine x_iload_n C dL_law_250 3 rfl ?_
  refine x_iconst (v := 1) C dL_law_251 (by decide) ?_
  refine x_iadd C dL_law_252 ?_
  refine x_topi (y := nI (j + 1)) (nI_add j 1).symm ?_
  refine x_sld C hX hbl hbA (vp_in_nI (by omega) (by omega)) dL_law_253 ?_
  refine x_aload_n C dL_law_254 0 rfl ?_
  refine x_iload_n C dL_law_255 3 rfl ?_
  refine x_iconst (v := 2) C dL_law_256 (by decide) ?_
  refine x_iadd C dL_law_257 ?_
  refine x_topi (y := nI (j + 2)) (nI_add j 2).symm ?_
  refine x_sld C hX hbl hbA (vp_in_nI (by omega) (by omega)) dL_law_258 ?_
  refine x_swap ?_
  refine x_callLi (st := [.int r]) (As := [.int (xs (nI (j + 1)).toNatClampNeg), .int (xs (nI (j + 2)).toNatClampNeg)]) (wX := mwS κ q2 M) (wX2 := mwS κ q2 M2) C (cM_has (κ := (κ.1, κ.2.1, adr (mwS κ q2 M), κ.2.2.2)) hm) xm_X9_has ml_L_33 0 rfl rfl rfl rfl rfl rfl dL_law_259 hf ?_
  refine x_swap ?_
  refine x_icmp_eq (tgt := 923) C dL_law_262 (by decide) (fun hc => ?_) (fun hc => absurd rfl hc)
  exact K X2 M2 hR2
set_option maxHeartbeats 4000000 in
set_option maxRecDepth 100000 in
theorem lc_next {κ : xb_k} {Γ : xb_X} {cells slots : Nat} {b L nn j fu : Nat} {xs : Nat → Int32} {q q2 : Nat → Nat} {X : XS} {M : MS} {Rel : Nat → XS → MS → Prop} (C : xb_C κ Γ 4 cL_law RL room_1) (hX : va_X b L xs Γ.2.2.2.1 Γ.2.2.2.1.heap) (hbl : b < Γ.2.2.2.1.heap.size) (hbA : ¬ κ.2.2.1 b) (hL : L ≤ 2049) (hj : j + 3 < L) (hf : Nat.ble cells 600000 = true ∧ Nat.ble slots 7302249 = true) (hR : Rel nn X M) (H : OK_next fu Rel) (K : ∀ (X2 : XS) (M2 : MS), Rel nn X2 M2 → xb_W κ Γ 4 cells slots 923 [(0, .ref b), (1, .ref (q 0)), (2, .ref (q2 0)), (3, .int (nI j))] [] (xwS κ q nn X2 ++ mwS κ q2 M2)) : xb_W κ Γ 4 cells slots 267 [(0, .ref b), (1, .ref (q 0)), (2, .ref (q2 0)), (3, .int (nI j))] [] (xwS κ q nn X ++ mwS κ q2 M) := by
  refine x_aload_n C dL_law_267 1 rfl ?_
  refine x_aload_n C dL_law_268 0 rfl ?_
  refine x_iload_n C dL_law_269 3 rfl ?_
  refine x_iconst (v := 1) C dL_law_270 (by decide) ?_
  refine x_iadd C dL_law_271 ?_
  refine x_topi (y := nI (j + 1)) (nI_add j 1).symm ?_
  refine x_sld C hX hbl hbA (vp_in_nI (by omega) (by omega)) dL_law_272 ?_
  refine x_aload_n C dL_law_273 0 rfl ?_
  refine x_iload_n C dL_law_274 3 rfl ?_
  refine x_iconst (v := 2) C dL_law_275 (by decide) ?_
  refine x_iadd C dL_law_276 ?_
  refine x_topi (y := nI (j + 2)) (nI_add j 2).symm ?_
  refine x_sld C hX hbl hbA (vp_in_nI (by omega) (by omega)) dL_law_277 ?_
  obtain ⟨r, X2, M2, hx, hm, hR2⟩ := H nn X M (xs (nI (j + 1)).toNatClampNeg) (xs (nI (j + 2)).toNatClampNeg) hR
  refine x_callLi (st := []) (As := [.int (xs (nI (j + 1)).toNatClampNeg), .int (xs (nI (j + 2)).toNatClampNeg)]) (wX := xwS κ q nn X) (wX2 := xwS κ q nn X2) C (cX_next (κ := (κ.1, κ.2.1, adr (xwS κ q nn X), κ.2.2.2)) hx) xm_X8_next ml_L_34 0 rfl rfl rfl rfl rfl rfl dL_law_278 hf ?_
  refine x_aload_n C dL_law_281 2 rfl ?_
  refine x_aload_n C dL_law_282 0 rfl ?_
  refine x_iload_n C dL_law_283 3 rfl ?_
  refine x_iconst (v := 1) C dL_law_284 (by decide) ?_
  refine x_iadd C dL_law_285 ?_
  refine x_topi (y := nI (j + 1)) (nI_add j 1).symm ?_
  refine x_sld C hX hbl hbA (vp_in_nI (by omega) (by omega)) dL_law_286 ?_
  refine x_aload_n C dL_law_287 0 rfl ?_
  refine x_iload_n C dL_law_288 3 rfl ?_
  refine x_iconst (v := 2) C dL_law_289 (by decide) ?_
  refine x_iadd C dL_law_290 ?_
  refine x_topi (y := nI (j + 2)) (nI_add j 2).symm ?_
  refine x_sld C hX hbl hbA (vp_in_nI (by omega) (by omega)) dL_law_291 ?_
  refine x_swap ?_
  refine x_callLi (st := [.int r]) (As := [.int (xs (nI (j + 1)).toNatClampNeg), .int (xs (nI (j + 2)).toNatClampNeg)]) (wX := mwS κ q2 M) (wX2 := mwS κ q2 M2) C (cM_next (κ := (κ.1, κ.2.1, adr (mwS κ q2 M), κ.2.2.2)) hm) xm_X9_next ml_L_37 0 rfl rfl rfl rfl rfl rfl dL_law_292 hf ?_
  refine x_swap ?_
  refine x_icmp_eq (tgt := 923) C dL_law_295 (by decide) (fun hc => ?_) (fun hc => absurd rfl hc)
  exact K X2 M2 hR2
set_option maxHeartbeats 4000000 in
set_option maxRecDepth 100000 in
theorem lc_degree {κ : xb_k} {Γ : xb_X} {cells slots : Nat} {b L nn j fu : Nat} {xs : Nat → Int32} {q q2 : Nat → Nat} {X : XS} {M : MS} {Rel : Nat → XS → MS → Prop} (C : xb_C κ Γ 4 cL_law RL room_1) (hX : va_X b L xs Γ.2.2.2.1 Γ.2.2.2.1.heap) (hbl : b < Γ.2.2.2.1.heap.size) (hbA : ¬ κ.2.2.1 b) (hL : L ≤ 2049) (hj : j + 3 < L) (hf : Nat.ble cells 600000 = true ∧ Nat.ble slots 7302249 = true) (hR : Rel nn X M) (H : OK_degree fu Rel) (K : ∀ (X2 : XS) (M2 : MS), Rel nn X2 M2 → xb_W κ Γ 4 cells slots 923 [(0, .ref b), (1, .ref (q 0)), (2, .ref (q2 0)), (3, .int (nI j))] [] (xwS κ q nn X2 ++ mwS κ q2 M2)) : xb_W κ Γ 4 cells slots 300 [(0, .ref b), (1, .ref (q 0)), (2, .ref (q2 0)), (3, .int (nI j))] [] (xwS κ q nn X ++ mwS κ q2 M) := by
  refine x_aload_n C dL_law_300 1 rfl ?_
  refine x_aload_n C dL_law_301 0 rfl ?_
  refine x_iload_n C dL_law_302 3 rfl ?_
  refine x_iconst (v := 1) C dL_law_303 (by decide) ?_
  refine x_iadd C dL_law_304 ?_
  refine x_topi (y := nI (j + 1)) (nI_add j 1).symm ?_
  refine x_sld C hX hbl hbA (vp_in_nI (by omega) (by omega)) dL_law_305 ?_
  refine x_aload_n C dL_law_306 0 rfl ?_
  refine x_iload_n C dL_law_307 3 rfl ?_
  refine x_iconst (v := 2) C dL_law_308 (by decide) ?_
  refine x_iadd C dL_law_309 ?_
  refine x_topi (y := nI (j + 2)) (nI_add j 2).symm ?_
  refine x_sld C hX hbl hbA (vp_in_nI (by omega) (by omega)) dL_law_310 ?_
  obtain ⟨r, X2, M2, hx, hm, hR2⟩ := H nn X M (xs (nI (j + 1)).toNatClampNeg) (xs (nI (j + 2)).toNatClampNeg) hR
  refine x_callLi (st := []) (As := [.int (xs (nI (j + 1)).toNatClampNeg), .int (xs (nI (j + 2)).toNatClampNeg)]) (wX := xwS κ q nn X) (wX2 := xwS κ q nn X2) C (cX_degree (κ := (κ.1, κ.2.1, adr (xwS κ q nn X), κ.2.2.2)) hx) xm_X8_degree ml_L_38 0 rfl rfl rfl rfl rfl rfl dL_law_311 hf ?_
  refine x_aload_n C dL_law_314 2 rfl ?_
  refine x_aload_n C dL_law_315 0 rfl ?_
  refine x_iload_n C dL_law_316 3 rfl ?_
  refine x_iconst (v := 1) C dL_law_317 (by decide) ?_
  refine x_iadd C dL_law_318 ?_
  refine x_topi (y := nI (j + 1)) (nI_add j 1).symm ?_
  refine x_sld C hX hbl hbA (vp_in_nI (by omega) (by omega)) dL_law_319 ?_
  refine x_aload_n C dL_law_320 0 rfl ?_
  refine x_iload_n C dL_law_321 3 rfl ?_
  refine x_iconst (v := 2) C dL_law_322 (by decide) ?_
  refine x_iadd C dL_law_323 ?_
  refine x_topi (y := nI (j + 2)) (nI_add j 2).symm ?_
  refine x_sld C hX hbl hbA (vp_in_nI (by omega) (by omega)) dL_law_324 ?_
  refine x_swap ?_
  refine x_callLi (st := [.int r]) (As := [.int (xs (nI (j + 1)).toNatClampNeg), .int (xs (nI (j + 2)).toNatClampNeg)]) (wX := mwS κ q2 M) (wX2 := mwS κ q2 M2) C (cM_degree (κ := (κ.1, κ.2.1, adr (mwS κ q2 M), κ.2.2.2)) hm) xm_X9_degree ml_L_41 0 rfl rfl rfl rfl rfl rfl dL_law_325 hf ?_
  refine x_swap ?_
  refine x_icmp_eq (tgt := 923) C dL_law_328 (by decide) (fun hc => ?_) (fun hc => absurd rfl hc)
  exact K X2 M2 hR2
set_option maxHeartbeats 4000000 in
set_option maxRecDepth 100000 in
theorem lc_meet {κ : xb_k} {Γ : xb_X} {cells slots : Nat} {b L nn j fu : Nat} {xs : Nat → Int32} {q q2 : Nat → Nat} {X : XS} {M : MS} {Rel : Nat → XS → MS → Prop} (C : xb_C κ Γ 4 cL_law RL room_1) (hX : va_X b L xs Γ.2.2.2.1 Γ.2.2.2.1.heap) (hbl : b < Γ.2.2.2.1.heap.size) (hbA : ¬ κ.2.2.1 b) (hL : L ≤ 2049) (hj : j + 3 < L) (hf : Nat.ble cells 600000 = true ∧ Nat.ble slots 7302249 = true) (hR : Rel nn X M) (H : OK_meet fu Rel) (K : ∀ (X2 : XS) (M2 : MS), Rel nn X2 M2 → xb_W κ Γ 4 cells slots 923 [(0, .ref b), (1, .ref (q 0)), (2, .ref (q2 0)), (3, .int (nI j))] [] (xwS κ q nn X2 ++ mwS κ q2 M2)) : xb_W κ Γ 4 cells slots 333 [(0, .ref b), (1, .ref (q 0)), (2, .ref (q2 0)), (3, .int (nI j))] [] (xwS κ q nn X ++ mwS κ q2 M) := by
  refine x_aload_n C dL_law_333 1 rfl ?_
  refine x_aload_n C dL_law_334 0 rfl ?_
  refine x_iload_n C dL_law_335 3 rfl ?_
  refine x_iconst (v := 1) C dL_law_336 (by decide) ?_
  refine x_iadd C dL_law_337 ?_
  refine x_topi (y := nI (j + 1)) (nI_add j 1).symm ?_
  refine x_sld C hX hbl hbA (vp_in_nI (by omega) (by omega)) dL_law_338 ?_
  refine x_aload_n C dL_law_339 0 rfl ?_
  refine x_iload_n C dL_law_340 3 rfl ?_
  refine x_iconst (v := 2) C dL_law_341 (by decide) ?_
  refine x_iadd C dL_law_342 ?_
  refine x_topi (y := nI (j + 2)) (nI_add j 2).symm ?_
  refine x_sld C hX hbl hbA (vp_in_nI (by omega) (by omega)) dL_law_343 ?_
  obtain ⟨r, X2, M2, hx, hm, hR2⟩ := H nn X M (xs (nI (j + 1)).toNatClampNeg) (xs (nI (j + 2)).toNatClampNeg) hR
  refine x_callLi (st := []) (As := [.int (xs (nI (j + 1)).toNatClampNeg), .int (xs (nI (j + 2)).toNatClampNeg)]) (wX := xwS κ q nn X) (wX2 := xwS κ q nn X2) C (cX_meet (κ := (κ.1, κ.2.1, adr (xwS κ q nn X), κ.2.2.2)) hx) xm_X8_meet ml_L_42 0 rfl rfl rfl rfl rfl rfl dL_law_344 hf ?_
  refine x_aload_n C dL_law_347 2 rfl ?_
  refine x_aload_n C dL_law_348 0 rfl ?_
  refine x_iload_n C dL_law_349 3 rfl ?_
  refine x_iconst (v := 1) C dL_law_350 (by decide) ?_
  refine x_iadd C dL_law_351 ?_
  refine x_topi (y := nI (j + 1)) (nI_add j 1).symm ?_
  refine x_sld C hX hbl hbA (vp_in_nI (by omega) (by omega)) dL_law_352 ?_
  refine x_aload_n C dL_law_353 0 rfl ?_
  refine x_iload_n C dL_law_354 3 rfl ?_
  refine x_iconst (v := 2) C dL_law_355 (by decide) ?_
  refine x_iadd C dL_law_356 ?_
  refine x_topi (y := nI (j + 2)) (nI_add j 2).symm ?_
  refine x_sld C hX hbl hbA (vp_in_nI (by omega) (by omega)) dL_law_357 ?_
  refine x_swap ?_
  refine x_callLi (st := [.int r]) (As := [.int (xs (nI (j + 1)).toNatClampNeg), .int (xs (nI (j + 2)).toNatClampNeg)]) (wX := mwS κ q2 M) (wX2 := mwS κ q2 M2) C (cM_meet (κ := (κ.1, κ.2.1, adr (mwS κ q2 M), κ.2.2.2)) hm) xm_X9_meet ml_L_45 0 rfl rfl rfl rfl rfl rfl dL_law_358 hf ?_
  refine x_swap ?_
  refine x_icmp_eq (tgt := 923) C dL_law_361 (by decide) (fun hc => ?_) (fun hc => absurd rfl hc)
  exact K X2 M2 hR2
set_option maxHeartbeats 4000000 in
set_option maxRecDepth 100000 in
theorem lc_back {κ : xb_k} {Γ : xb_X} {cells slots : Nat} {b L nn j fu : Nat} {xs : Nat → Int32} {q q2 : Nat → Nat} {X : XS} {M : MS} {Rel : Nat → XS → MS → Prop} (C : xb_C κ Γ 4 cL_law RL room_1) (hX : va_X b L xs Γ.2.2.2.1 Γ.2.2.2.1.heap) (hbl : b < Γ.2.2.2.1.heap.size) (hbA : ¬ κ.2.2.1 b) (hL : L ≤ 2049) (hj : j + 3 < L) (hf : Nat.ble cells 600000 = true ∧ Nat.ble slots 7302249 = true) (hR : Rel nn X M) (H : OK_back fu Rel) (K : ∀ (X2 : XS) (M2 : MS), Rel nn X2 M2 → xb_W κ Γ 4 cells slots 923 [(0, .ref b), (1, .ref (q 0)), (2, .ref (q2 0)), (3, .int (nI j))] [] (xwS κ q nn X2 ++ mwS κ q2 M2)) : xb_W κ Γ 4 cells slots 366 [(0, .ref b), (1, .ref (q 0)), (2, .ref (q2 0)), (3, .int (nI j))] [] (xwS κ q nn X ++ mwS κ q2 M) := by
  refine x_aload_n C dL_law_366 1 rfl ?_
  refine x_aload_n C dL_law_367 0 rfl ?_
  refine x_iload_n C dL_law_368 3 rfl ?_
  refine x_iconst (v := 1) C dL_law_369 (by decide) ?_
  refine x_iadd C dL_law_370 ?_
  refine x_topi (y := nI (j + 1)) (nI_add j 1).symm ?_
  refine x_sld C hX hbl hbA (vp_in_nI (by omega) (by omega)) dL_law_371 ?_
  refine x_aload_n C dL_law_372 0 rfl ?_
  refine x_iload_n C dL_law_373 3 rfl ?_
  refine x_iconst (v := 2) C dL_law_374 (by decide) ?_
  refine x_iadd C dL_law_375 ?_
  refine x_topi (y := nI (j + 2)) (nI_add j 2).symm ?_
  refine x_sld C hX hbl hbA (vp_in_nI (by omega) (by omega)) dL_law_376 ?_
  obtain ⟨r, X2, M2, hx, hm, hR2⟩ := H nn X M (xs (nI (j + 1)).toNatClampNeg) (xs (nI (j + 2)).toNatClampNeg) hR
  refine x_callLi (st := []) (As := [.int (xs (nI (j + 1)).toNatClampNeg), .int (xs (nI (j + 2)).toNatClampNeg)]) (wX := xwS κ q nn X) (wX2 := xwS κ q nn X2) C (cX_back (κ := (κ.1, κ.2.1, adr (xwS κ q nn X), κ.2.2.2)) hx) xm_X8_back ml_L_46 0 rfl rfl rfl rfl rfl rfl dL_law_377 hf ?_
  refine x_aload_n C dL_law_380 2 rfl ?_
  refine x_aload_n C dL_law_381 0 rfl ?_
  refine x_iload_n C dL_law_382 3 rfl ?_
  refine x_iconst (v := 1) C dL_law_383 (by decide) ?_
  refine x_iadd C dL_law_384 ?_
  refine x_topi (y := nI (j + 1)) (nI_add j 1).symm ?_
  refine x_sld C hX hbl hbA (vp_in_nI (by omega) (by omega)) dL_law_385 ?_
  refine x_aload_n C dL_law_386 0 rfl ?_
  refine x_iload_n C dL_law_387 3 rfl ?_
  refine x_iconst (v := 2) C dL_law_388 (by decide) ?_
  refine x_iadd C dL_law_389 ?_
  refine x_topi (y := nI (j + 2)) (nI_add j 2).symm ?_
  refine x_sld C hX hbl hbA (vp_in_nI (by omega) (by omega)) dL_law_390 ?_
  refine x_swap ?_
  refine x_callLi (st := [.int r]) (As := [.int (xs (nI (j + 1)).toNatClampNeg), .int (xs (nI (j + 2)).toNatClampNeg)]) (wX := mwS κ q2 M) (wX2 := mwS κ q2 M2) C (cM_back (κ := (κ.1, κ.2.1, adr (mwS κ q2 M), κ.2.2.2)) hm) xm_X9_back ml_L_49 0 rfl rfl rfl rfl rfl rfl dL_law_391 hf ?_
  refine x_swap ?_
  refine x_icmp_eq (tgt := 923) C dL_law_394 (by decide) (fun hc => ?_) (fun hc => absurd rfl hc)
  exact K X2 M2 hR2
set_option maxHeartbeats 4000000 in
set_option maxRecDepth 100000 in
theorem lc_form {κ : xb_k} {Γ : xb_X} {cells slots : Nat} {b L nn j fu : Nat} {xs : Nat → Int32} {q q2 : Nat → Nat} {X : XS} {M : MS} {Rel : Nat → XS → MS → Prop} (C : xb_C κ Γ 4 cL_law RL room_1) (hX : va_X b L xs Γ.2.2.2.1 Γ.2.2.2.1.heap) (hbl : b < Γ.2.2.2.1.heap.size) (hbA : ¬ κ.2.2.1 b) (hL : L ≤ 2049) (hj : j + 3 < L) (hf : Nat.ble cells 600000 = true ∧ Nat.ble slots 7302249 = true) (hR : Rel nn X M) (H : OK_form fu Rel) (K : ∀ (X2 : XS) (M2 : MS), Rel nn X2 M2 → xb_W κ Γ 4 cells slots 923 [(0, .ref b), (1, .ref (q 0)), (2, .ref (q2 0)), (3, .int (nI j))] [] (xwS κ q nn X2 ++ mwS κ q2 M2)) : xb_W κ Γ 4 cells slots 399 [(0, .ref b), (1, .ref (q 0)), (2, .ref (q2 0)), (3, .int (nI j))] [] (xwS κ q nn X ++ mwS κ q2 M) := by
  refine x_aload_n C dL_law_399 1 rfl ?_
  refine x_aload_n C dL_law_400 0 rfl ?_
  refine x_iload_n C dL_law_401 3 rfl ?_
  refine x_iconst (v := 1) C dL_law_402 (by decide) ?_
  refine x_iadd C dL_law_403 ?_
  refine x_topi (y := nI (j + 1)) (nI_add j 1).symm ?_
  refine x_sld C hX hbl hbA (vp_in_nI (by omega) (by omega)) dL_law_404 ?_
  refine x_aload_n C dL_law_405 0 rfl ?_
  refine x_iload_n C dL_law_406 3 rfl ?_
  refine x_iconst (v := 2) C dL_law_407 (by decide) ?_
  refine x_iadd C dL_law_408 ?_
  refine x_topi (y := nI (j + 2)) (nI_add j 2).symm ?_
  refine x_sld C hX hbl hbA (vp_in_nI (by omega) (by omega)) dL_law_409 ?_
  obtain ⟨r, X2, M2, hx, hm, hR2⟩ := H nn X M (xs (nI (j + 1)).toNatClampNeg) (xs (nI (j + 2)).toNatClampNeg) hR
  refine x_callLi (st := []) (As := [.int (xs (nI (j + 1)).toNatClampNeg), .int (xs (nI (j + 2)).toNatClampNeg)]) (wX := xwS κ q nn X) (wX2 := xwS κ q nn X2) C (cX_form (κ := (κ.1, κ.2.1, adr (xwS κ q nn X), κ.2.2.2)) hx) xm_X8_form ml_L_50 0 rfl rfl rfl rfl rfl rfl dL_law_410 hf ?_
  refine x_aload_n C dL_law_413 2 rfl ?_
  refine x_aload_n C dL_law_414 0 rfl ?_
  refine x_iload_n C dL_law_415 3 rfl ?_
  refine x_iconst (v := 1) C dL_law_416 (by decide) ?_
  refine x_iadd C dL_law_417 ?_
  refine x_topi (y := nI (j + 1)) (nI_add j 1).symm ?_
  refine x_sld C hX hbl hbA (vp_in_nI (by omega) (by omega)) dL_law_418 ?_
  refine x_aload_n C dL_law_419 0 rfl ?_
  refine x_iload_n C dL_law_420 3 rfl ?_
  refine x_iconst (v := 2) C dL_law_421 (by decide) ?_
  refine x_iadd C dL_law_422 ?_
  refine x_topi (y := nI (j + 2)) (nI_add j 2).symm ?_
  refine x_sld C hX hbl hbA (vp_in_nI (by omega) (by omega)) dL_law_423 ?_
  refine x_swap ?_
  refine x_callLi (st := [.int r]) (As := [.int (xs (nI (j + 1)).toNatClampNeg), .int (xs (nI (j + 2)).toNatClampNeg)]) (wX := mwS κ q2 M) (wX2 := mwS κ q2 M2) C (cM_form (κ := (κ.1, κ.2.1, adr (mwS κ q2 M), κ.2.2.2)) hm) xm_X9_form ml_L_53 0 rfl rfl rfl rfl rfl rfl dL_law_424 hf ?_
  refine x_swap ?_
  refine x_icmp_eq (tgt := 923) C dL_law_427 (by decide) (fun hc => ?_) (fun hc => absurd rfl hc)
  exact K X2 M2 hR2
set_option maxHeartbeats 4000000 in
set_option maxRecDepth 100000 in
theorem lc_setting {κ : xb_k} {Γ : xb_X} {cells slots : Nat} {b L nn j fu : Nat} {xs : Nat → Int32} {q q2 : Nat → Nat} {X : XS} {M : MS} {Rel : Nat → XS → MS → Prop} (C : xb_C κ Γ 4 cL_law RL room_1) (hX : va_X b L xs Γ.2.2.2.1 Γ.2.2.2.1.heap) (hbl : b < Γ.2.2.2.1.heap.size) (hbA : ¬ κ.2.2.1 b) (hL : L ≤ 2049) (hj : j + 3 < L) (hf : Nat.ble cells 600000 = true ∧ Nat.ble slots 7302249 = true) (hR : Rel nn X M) (H : OK_setting fu Rel) (K : ∀ (X2 : XS) (M2 : MS), Rel nn X2 M2 → xb_W κ Γ 4 cells slots 923 [(0, .ref b), (1, .ref (q 0)), (2, .ref (q2 0)), (3, .int (nI j))] [] (xwS κ q nn X2 ++ mwS κ q2 M2)) : xb_W κ Γ 4 cells slots 432 [(0, .ref b), (1, .ref (q 0)), (2, .ref (q2 0)), (3, .int (nI j))] [] (xwS κ q nn X ++ mwS κ q2 M) := by
  refine x_aload_n C dL_law_432 1 rfl ?_
  refine x_aload_n C dL_law_433 0 rfl ?_
  refine x_iload_n C dL_law_434 3 rfl ?_
  refine x_iconst (v := 1) C dL_law_435 (by decide) ?_
  refine x_iadd C dL_law_436 ?_
  refine x_topi (y := nI (j + 1)) (nI_add j 1).symm ?_
  refine x_sld C hX hbl hbA (vp_in_nI (by omega) (by omega)) dL_law_437 ?_
  refine x_aload_n C dL_law_438 0 rfl ?_
  refine x_iload_n C dL_law_439 3 rfl ?_
  refine x_iconst (v := 2) C dL_law_440 (by decide) ?_
  refine x_iadd C dL_law_441 ?_
  refine x_topi (y := nI (j + 2)) (nI_add j 2).symm ?_
  refine x_sld C hX hbl hbA (vp_in_nI (by omega) (by omega)) dL_law_442 ?_
  obtain ⟨r, X2, M2, hx, hm, hR2⟩ := H nn X M (xs (nI (j + 1)).toNatClampNeg) (xs (nI (j + 2)).toNatClampNeg) hR
  refine x_callLi (st := []) (As := [.int (xs (nI (j + 1)).toNatClampNeg), .int (xs (nI (j + 2)).toNatClampNeg)]) (wX := xwS κ q nn X) (wX2 := xwS κ q nn X2) C (cX_setting (κ := (κ.1, κ.2.1, adr (xwS κ q nn X), κ.2.2.2)) hx) xm_X8_setting ml_L_54 0 rfl rfl rfl rfl rfl rfl dL_law_443 hf ?_
  refine x_aload_n C dL_law_446 2 rfl ?_
  refine x_aload_n C dL_law_447 0 rfl ?_
  refine x_iload_n C dL_law_448 3 rfl ?_
  refine x_iconst (v := 1) C dL_law_449 (by decide) ?_
  refine x_iadd C dL_law_450 ?_
  refine x_topi (y := nI (j + 1)) (nI_add j 1).symm ?_
  refine x_sld C hX hbl hbA (vp_in_nI (by omega) (by omega)) dL_law_451 ?_
  refine x_aload_n C dL_law_452 0 rfl ?_
  refine x_iload_n C dL_law_453 3 rfl ?_
  refine x_iconst (v := 2) C dL_law_454 (by decide) ?_
  refine x_iadd C dL_law_455 ?_
  refine x_topi (y := nI (j + 2)) (nI_add j 2).symm ?_
  refine x_sld C hX hbl hbA (vp_in_nI (by omega) (by omega)) dL_law_456 ?_
  refine x_swap ?_
  refine x_callLi (st := [.int r]) (As := [.int (xs (nI (j + 1)).toNatClampNeg), .int (xs (nI (j + 2)).toNatClampNeg)]) (wX := mwS κ q2 M) (wX2 := mwS κ q2 M2) C (cM_setting (κ := (κ.1, κ.2.1, adr (mwS κ q2 M), κ.2.2.2)) hm) xm_X9_setting ml_L_57 0 rfl rfl rfl rfl rfl rfl dL_law_457 hf ?_
  refine x_swap ?_
  refine x_icmp_eq (tgt := 923) C dL_law_460 (by decide) (fun hc => ?_) (fun hc => absurd rfl hc)
  exact K X2 M2 hR2
set_option maxHeartbeats 4000000 in
set_option maxRecDepth 100000 in
theorem lc_length {κ : xb_k} {Γ : xb_X} {cells slots : Nat} {b L nn j fu : Nat} {xs : Nat → Int32} {q q2 : Nat → Nat} {X : XS} {M : MS} {Rel : Nat → XS → MS → Prop} (C : xb_C κ Γ 4 cL_law RL room_1) (hX : va_X b L xs Γ.2.2.2.1 Γ.2.2.2.1.heap) (hbl : b < Γ.2.2.2.1.heap.size) (hbA : ¬ κ.2.2.1 b) (hL : L ≤ 2049) (hj : j + 3 < L) (hf : Nat.ble cells 600000 = true ∧ Nat.ble slots 7302249 = true) (hR : Rel nn X M) (H : OK_length fu Rel) (K : ∀ (X2 : XS) (M2 : MS), Rel nn X2 M2 → xb_W κ Γ 4 cells slots 923 [(0, .ref b), (1, .ref (q 0)), (2, .ref (q2 0)), (3, .int (nI j))] [] (xwS κ q nn X2 ++ mwS κ q2 M2)) : xb_W κ Γ 4 cells slots 465 [(0, .ref b), (1, .ref (q 0)), (2, .ref (q2 0)), (3, .int (nI j))] [] (xwS κ q nn X ++ mwS κ q2 M) := by
  refine x_aload_n C dL_law_465 1 rfl ?_
  refine x_aload_n C dL_law_466 0 rfl ?_
  refine x_iload_n C dL_law_467 3 rfl ?_
  refine x_iconst (v := 1) C dL_law_468 (by decide) ?_
  refine x_iadd C dL_law_469 ?_
  refine x_topi (y := nI (j + 1)) (nI_add j 1).symm ?_
  refine x_sld C hX hbl hbA (vp_in_nI (by omega) (by omega)) dL_law_470 ?_
  refine x_aload_n C dL_law_471 0 rfl ?_
  refine x_iload_n C dL_law_472 3 rfl ?_
  refine x_iconst (v := 2) C dL_law_473 (by decide) ?_
  refine x_iadd C dL_law_474 ?_
  refine x_topi (y := nI (j + 2)) (nI_add j 2).symm ?_
  refine x_sld C hX hbl hbA (vp_in_nI (by omega) (by omega)) dL_law_475 ?_
  obtain ⟨r, X2, M2, hx, hm, hR2⟩ := H nn X M (xs (nI (j + 1)).toNatClampNeg) (xs (nI (j + 2)).toNatClampNeg) hR
  refine x_callLi (st := []) (As := [.int (xs (nI (j + 1)).toNatClampNeg), .int (xs (nI (j + 2)).toNatClampNeg)]) (wX := xwS κ q nn X) (wX2 := xwS κ q nn X2) C (cX_length (κ := (κ.1, κ.2.1, adr (xwS κ q nn X), κ.2.2.2)) hx) xm_X8_length ml_L_58 0 rfl rfl rfl rfl rfl rfl dL_law_476 hf ?_
  refine x_aload_n C dL_law_479 2 rfl ?_
  refine x_aload_n C dL_law_480 0 rfl ?_
  refine x_iload_n C dL_law_481 3 rfl ?_
  refine x_iconst (v := 1) C dL_law_482 (by decide) ?_
  refine x_iadd C dL_law_483 ?_
  refine x_topi (y := nI (j + 1)) (nI_add j 1).symm ?_
  refine x_sld C hX hbl hbA (vp_in_nI (by omega) (by omega)) dL_law_484 ?_
  refine x_aload_n C dL_law_485 0 rfl ?_
  refine x_iload_n C dL_law_486 3 rfl ?_
  refine x_iconst (v := 2) C dL_law_487 (by decide) ?_
  refine x_iadd C dL_law_488 ?_
  refine x_topi (y := nI (j + 2)) (nI_add j 2).symm ?_
  refine x_sld C hX hbl hbA (vp_in_nI (by omega) (by omega)) dL_law_489 ?_
  refine x_swap ?_
  refine x_callLi (st := [.int r]) (As := [.int (xs (nI (j + 1)).toNatClampNeg), .int (xs (nI (j + 2)).toNatClampNeg)]) (wX := mwS κ q2 M) (wX2 := mwS κ q2 M2) C (cM_length (κ := (κ.1, κ.2.1, adr (mwS κ q2 M), κ.2.2.2)) hm) xm_X9_length ml_L_61 0 rfl rfl rfl rfl rfl rfl dL_law_490 hf ?_
  refine x_swap ?_
  refine x_icmp_eq (tgt := 923) C dL_law_493 (by decide) (fun hc => ?_) (fun hc => absurd rfl hc)
  exact K X2 M2 hR2
set_option maxHeartbeats 4000000 in
set_option maxRecDepth 100000 in
theorem lc_cost {κ : xb_k} {Γ : xb_X} {cells slots : Nat} {b L nn j fu : Nat} {xs : Nat → Int32} {q q2 : Nat → Nat} {X : XS} {M : MS} {Rel : Nat → XS → MS → Prop} (C : xb_C κ Γ 4 cL_law RL room_1) (hX : va_X b L xs Γ.2.2.2.1 Γ.2.2.2.1.heap) (hbl : b < Γ.2.2.2.1.heap.size) (hbA : ¬ κ.2.2.1 b) (hL : L ≤ 2049) (hj : j + 3 < L) (hf : Nat.ble cells 600000 = true ∧ Nat.ble slots 7302249 = true) (hR : Rel nn X M) (H : OK_cost fu Rel) (K : ∀ (X2 : XS) (M2 : MS), Rel nn X2 M2 → xb_W κ Γ 4 cells slots 923 [(0, .ref b), (1, .ref (q 0)), (2, .ref (q2 0)), (3, .int (nI j))] [] (xwS κ q nn X2 ++ mwS κ q2 M2)) : xb_W κ Γ 4 cells slots 498 [(0, .ref b), (1, .ref (q 0)), (2, .ref (q2 0)), (3, .int (nI j))] [] (xwS κ q nn X ++ mwS κ q2 M) := by
  refine x_aload_n C dL_law_498 1 rfl ?_
  refine x_aload_n C dL_law_499 0 rfl ?_
  refine x_iload_n C dL_law_500 3 rfl ?_
  refine x_iconst (v := 1) C dL_law_501 (by decide) ?_
  refine x_iadd C dL_law_502 ?_
  refine x_topi (y := nI (j + 1)) (nI_add j 1).symm ?_
  refine x_sld C hX hbl hbA (vp_in_nI (by omega) (by omega)) dL_law_503 ?_
  refine x_aload_n C dL_law_504 0 rfl ?_
  refine x_iload_n C dL_law_505 3 rfl ?_
  refine x_iconst (v := 2) C dL_law_506 (by decide) ?_
  refine x_iadd C dL_law_507 ?_
  refine x_topi (y := nI (j + 2)) (nI_add j 2).symm ?_
  refine x_sld C hX hbl hbA (vp_in_nI (by omega) (by omega)) dL_law_508 ?_
  refine x_aload_n C dL_law_509 0 rfl ?_
  refine x_iload_n C dL_law_510 3 rfl ?_
  refine x_iconst (v := 3) C dL_law_511 (by decide) ?_
  refine x_iadd C dL_law_512 ?_
  refine x_topi (y := nI (j + 3)) (nI_add j 3).symm ?_
  refine x_sld C hX hbl hbA (vp_in_nI (by omega) (by omega)) dL_law_513 ?_
  obtain ⟨r, X2, M2, hx, hm, hR2⟩ := H nn X M (xs (nI (j + 1)).toNatClampNeg) (xs (nI (j + 2)).toNatClampNeg) (xs (nI (j + 3)).toNatClampNeg) hR
  refine x_callLi (st := []) (As := [.int (xs (nI (j + 1)).toNatClampNeg), .int (xs (nI (j + 2)).toNatClampNeg), .int (xs (nI (j + 3)).toNatClampNeg)]) (wX := xwS κ q nn X) (wX2 := xwS κ q nn X2) C (cX_cost (κ := (κ.1, κ.2.1, adr (xwS κ q nn X), κ.2.2.2)) hx) xm_X8_cost ml_L_62 0 rfl rfl rfl rfl rfl rfl dL_law_514 hf ?_
  refine x_aload_n C dL_law_517 2 rfl ?_
  refine x_aload_n C dL_law_518 0 rfl ?_
  refine x_iload_n C dL_law_519 3 rfl ?_
  refine x_iconst (v := 1) C dL_law_520 (by decide) ?_
  refine x_iadd C dL_law_521 ?_
  refine x_topi (y := nI (j + 1)) (nI_add j 1).symm ?_
  refine x_sld C hX hbl hbA (vp_in_nI (by omega) (by omega)) dL_law_522 ?_
  refine x_aload_n C dL_law_523 0 rfl ?_
  refine x_iload_n C dL_law_524 3 rfl ?_
  refine x_iconst (v := 2) C dL_law_525 (by decide) ?_
  refine x_iadd C dL_law_526 ?_
  refine x_topi (y := nI (j + 2)) (nI_add j 2).symm ?_
  refine x_sld C hX hbl hbA (vp_in_nI (by omega) (by omega)) dL_law_527 ?_
  refine x_aload_n C dL_law_528 0 rfl ?_
  refine x_iload_n C dL_law_529 3 rfl ?_
  refine x_iconst (v := 3) C dL_law_530 (by decide) ?_
  refine x_iadd C dL_law_531 ?_
  refine x_topi (y := nI (j + 3)) (nI_add j 3).symm ?_
  refine x_sld C hX hbl hbA (vp_in_nI (by omega) (by omega)) dL_law_532 ?_
  refine x_swap ?_
  refine x_callLi (st := [.int r]) (As := [.int (xs (nI (j + 1)).toNatClampNeg), .int (xs (nI (j + 2)).toNatClampNeg), .int (xs (nI (j + 3)).toNatClampNeg)]) (wX := mwS κ q2 M) (wX2 := mwS κ q2 M2) C (cM_cost (κ := (κ.1, κ.2.1, adr (mwS κ q2 M), κ.2.2.2)) hm) xm_X9_cost ml_L_66 0 rfl rfl rfl rfl rfl rfl dL_law_533 hf ?_
  refine x_swap ?_
  refine x_icmp_eq (tgt := 923) C dL_law_536 (by decide) (fun hc => ?_) (fun hc => absurd rfl hc)
  exact K X2 M2 hR2
set_option maxHeartbeats 4000000 in
set_option maxRecDepth 100000 in
theorem lc_pack {κ : xb_k} {Γ : xb_X} {cells slots : Nat} {b L nn j fu : Nat} {xs : Nat → Int32} {q q2 : Nat → Nat} {X : XS} {M : MS} {Rel : Nat → XS → MS → Prop} (C : xb_C κ Γ 4 cL_law RL room_1) (hX : va_X b L xs Γ.2.2.2.1 Γ.2.2.2.1.heap) (hbl : b < Γ.2.2.2.1.heap.size) (hbA : ¬ κ.2.2.1 b) (hL : L ≤ 2049) (hj : j + 3 < L) (hf : Nat.ble cells 600000 = true ∧ Nat.ble slots 7302249 = true) (hR : Rel nn X M) (H : OK_pack fu Rel) (K : ∀ (X2 : XS) (M2 : MS), Rel nn X2 M2 → xb_W κ Γ 4 cells slots 923 [(0, .ref b), (1, .ref (q 0)), (2, .ref (q2 0)), (3, .int (nI j))] [] (xwS κ q nn X2 ++ mwS κ q2 M2)) : xb_W κ Γ 4 cells slots 541 [(0, .ref b), (1, .ref (q 0)), (2, .ref (q2 0)), (3, .int (nI j))] [] (xwS κ q nn X ++ mwS κ q2 M) := by
  refine x_aload_n C dL_law_541 1 rfl ?_
  obtain ⟨r, X2, M2, hx, hm, hR2⟩ := H nn X M hR
  refine x_callLi (st := []) (As := []) (wX := xwS κ q nn X) (wX2 := xwS κ q nn X2) C (cX_pack (κ := (κ.1, κ.2.1, adr (xwS κ q nn X), κ.2.2.2)) hx) xm_X8_pack ml_L_67 0 rfl rfl rfl rfl rfl rfl dL_law_542 hf ?_
  refine x_aload_n C dL_law_545 2 rfl ?_
  refine x_swap ?_
  refine x_callLi (st := [.int r]) (As := []) (wX := mwS κ q2 M) (wX2 := mwS κ q2 M2) C (cM_pack (κ := (κ.1, κ.2.1, adr (mwS κ q2 M), κ.2.2.2)) hm) xm_X9_pack ml_L_71 0 rfl rfl rfl rfl rfl rfl dL_law_546 hf ?_
  refine x_swap ?_
  refine x_icmp_eq (tgt := 923) C dL_law_549 (by decide) (fun hc => ?_) (fun hc => absurd rfl hc)
  exact K X2 M2 hR2
set_option maxHeartbeats 4000000 in
set_option maxRecDepth 100000 in
theorem lc_told {κ : xb_k} {Γ : xb_X} {cells slots : Nat} {b L nn j fu : Nat} {xs : Nat → Int32} {q q2 : Nat → Nat} {X : XS} {M : MS} {Rel : Nat → XS → MS → Prop} (C : xb_C κ Γ 4 cL_law RL room_1) (hX : va_X b L xs Γ.2.2.2.1 Γ.2.2.2.1.heap) (hbl : b < Γ.2.2.2.1.heap.size) (hbA : ¬ κ.2.2.1 b) (hL : L ≤ 2049) (hj : j + 3 < L) (hf : Nat.ble cells 600000 = true ∧ Nat.ble slots 7302249 = true) (hR : Rel nn X M) (H : OK_told fu Rel) (K : ∀ (X2 : XS) (M2 : MS), Rel nn X2 M2 → xb_W κ Γ 4 cells slots 923 [(0, .ref b), (1, .ref (q 0)), (2, .ref (q2 0)), (3, .int (nI j))] [] (xwS κ q nn X2 ++ mwS κ q2 M2)) : xb_W κ Γ 4 cells slots 554 [(0, .ref b), (1, .ref (q 0)), (2, .ref (q2 0)), (3, .int (nI j))] [] (xwS κ q nn X ++ mwS κ q2 M) := by
  refine x_aload_n C dL_law_554 1 rfl ?_
  refine x_aload_n C dL_law_555 0 rfl ?_
  refine x_iload_n C dL_law_556 3 rfl ?_
  refine x_iconst (v := 1) C dL_law_557 (by decide) ?_
  refine x_iadd C dL_law_558 ?_
  refine x_topi (y := nI (j + 1)) (nI_add j 1).symm ?_
  refine x_sld C hX hbl hbA (vp_in_nI (by omega) (by omega)) dL_law_559 ?_
  refine x_aload_n C dL_law_560 0 rfl ?_
  refine x_iload_n C dL_law_561 3 rfl ?_
  refine x_iconst (v := 2) C dL_law_562 (by decide) ?_
  refine x_iadd C dL_law_563 ?_
  refine x_topi (y := nI (j + 2)) (nI_add j 2).symm ?_
  refine x_sld C hX hbl hbA (vp_in_nI (by omega) (by omega)) dL_law_564 ?_
  obtain ⟨r, X2, M2, hx, hm, hR2⟩ := H nn X M (xs (nI (j + 1)).toNatClampNeg) (xs (nI (j + 2)).toNatClampNeg) hR
  refine x_callLi (st := []) (As := [.int (xs (nI (j + 1)).toNatClampNeg), .int (xs (nI (j + 2)).toNatClampNeg)]) (wX := xwS κ q nn X) (wX2 := xwS κ q nn X2) C (cX_told (κ := (κ.1, κ.2.1, adr (xwS κ q nn X), κ.2.2.2)) hx) xm_X8_told ml_L_72 0 rfl rfl rfl rfl rfl rfl dL_law_565 hf ?_
  refine x_aload_n C dL_law_568 2 rfl ?_
  refine x_aload_n C dL_law_569 0 rfl ?_
  refine x_iload_n C dL_law_570 3 rfl ?_
  refine x_iconst (v := 1) C dL_law_571 (by decide) ?_
  refine x_iadd C dL_law_572 ?_
  refine x_topi (y := nI (j + 1)) (nI_add j 1).symm ?_
  refine x_sld C hX hbl hbA (vp_in_nI (by omega) (by omega)) dL_law_573 ?_
  refine x_aload_n C dL_law_574 0 rfl ?_
  refine x_iload_n C dL_law_575 3 rfl ?_
  refine x_iconst (v := 2) C dL_law_576 (by decide) ?_
  refine x_iadd C dL_law_577 ?_
  refine x_topi (y := nI (j + 2)) (nI_add j 2).symm ?_
  refine x_sld C hX hbl hbA (vp_in_nI (by omega) (by omega)) dL_law_578 ?_
  refine x_swap ?_
  refine x_callLi (st := [.int r]) (As := [.int (xs (nI (j + 1)).toNatClampNeg), .int (xs (nI (j + 2)).toNatClampNeg)]) (wX := mwS κ q2 M) (wX2 := mwS κ q2 M2) C (cM_told (κ := (κ.1, κ.2.1, adr (mwS κ q2 M), κ.2.2.2)) hm) xm_X9_told ml_L_75 0 rfl rfl rfl rfl rfl rfl dL_law_579 hf ?_
  refine x_swap ?_
  refine x_icmp_eq (tgt := 923) C dL_law_582 (by decide) (fun hc => ?_) (fun hc => absurd rfl hc)
  exact K X2 M2 hR2
set_option maxHeartbeats 4000000 in
set_option maxRecDepth 100000 in
theorem lc_looked {κ : xb_k} {Γ : xb_X} {cells slots : Nat} {b L nn j fu : Nat} {xs : Nat → Int32} {q q2 : Nat → Nat} {X : XS} {M : MS} {Rel : Nat → XS → MS → Prop} (C : xb_C κ Γ 4 cL_law RL room_1) (hX : va_X b L xs Γ.2.2.2.1 Γ.2.2.2.1.heap) (hbl : b < Γ.2.2.2.1.heap.size) (hbA : ¬ κ.2.2.1 b) (hL : L ≤ 2049) (hj : j + 3 < L) (hf : Nat.ble cells 600000 = true ∧ Nat.ble slots 7302249 = true) (hR : Rel nn X M) (H : OK_looked fu Rel) (K : ∀ (X2 : XS) (M2 : MS), Rel nn X2 M2 → xb_W κ Γ 4 cells slots 923 [(0, .ref b), (1, .ref (q 0)), (2, .ref (q2 0)), (3, .int (nI j))] [] (xwS κ q nn X2 ++ mwS κ q2 M2)) : xb_W κ Γ 4 cells slots 587 [(0, .ref b), (1, .ref (q 0)), (2, .ref (q2 0)), (3, .int (nI j))] [] (xwS κ q nn X ++ mwS κ q2 M) := by
  refine x_aload_n C dL_law_587 1 rfl ?_
  refine x_aload_n C dL_law_588 0 rfl ?_
  refine x_iload_n C dL_law_589 3 rfl ?_
  refine x_iconst (v := 1) C dL_law_590 (by decide) ?_
  refine x_iadd C dL_law_591 ?_
  refine x_topi (y := nI (j + 1)) (nI_add j 1).symm ?_
  refine x_sld C hX hbl hbA (vp_in_nI (by omega) (by omega)) dL_law_592 ?_
  obtain ⟨r, X2, M2, hx, hm, hR2⟩ := H nn X M (xs (nI (j + 1)).toNatClampNeg) hR
  refine x_callLi (st := []) (As := [.int (xs (nI (j + 1)).toNatClampNeg)]) (wX := xwS κ q nn X) (wX2 := xwS κ q nn X2) C (cX_looked (κ := (κ.1, κ.2.1, adr (xwS κ q nn X), κ.2.2.2)) hx) xm_X8_looked ml_L_76 0 rfl rfl rfl rfl rfl rfl dL_law_593 hf ?_
  refine x_aload_n C dL_law_596 2 rfl ?_
  refine x_aload_n C dL_law_597 0 rfl ?_
  refine x_iload_n C dL_law_598 3 rfl ?_
  refine x_iconst (v := 1) C dL_law_599 (by decide) ?_
  refine x_iadd C dL_law_600 ?_
  refine x_topi (y := nI (j + 1)) (nI_add j 1).symm ?_
  refine x_sld C hX hbl hbA (vp_in_nI (by omega) (by omega)) dL_law_601 ?_
  refine x_swap ?_
  refine x_callLi (st := [.int r]) (As := [.int (xs (nI (j + 1)).toNatClampNeg)]) (wX := mwS κ q2 M) (wX2 := mwS κ q2 M2) C (cM_looked (κ := (κ.1, κ.2.1, adr (mwS κ q2 M), κ.2.2.2)) hm) xm_X9_looked ml_L_80 0 rfl rfl rfl rfl rfl rfl dL_law_602 hf ?_
  refine x_swap ?_
  refine x_icmp_eq (tgt := 923) C dL_law_605 (by decide) (fun hc => ?_) (fun hc => absurd rfl hc)
  exact K X2 M2 hR2
set_option maxHeartbeats 4000000 in
set_option maxRecDepth 100000 in
theorem lc_would {κ : xb_k} {Γ : xb_X} {cells slots : Nat} {b L nn j fu : Nat} {xs : Nat → Int32} {q q2 : Nat → Nat} {X : XS} {M : MS} {Rel : Nat → XS → MS → Prop} (C : xb_C κ Γ 4 cL_law RL room_1) (hX : va_X b L xs Γ.2.2.2.1 Γ.2.2.2.1.heap) (hbl : b < Γ.2.2.2.1.heap.size) (hbA : ¬ κ.2.2.1 b) (hL : L ≤ 2049) (hj : j + 3 < L) (hf : Nat.ble cells 600000 = true ∧ Nat.ble slots 7302249 = true) (hR : Rel nn X M) (H : OK_would fu Rel) (K : ∀ (X2 : XS) (M2 : MS), Rel nn X2 M2 → xb_W κ Γ 4 cells slots 923 [(0, .ref b), (1, .ref (q 0)), (2, .ref (q2 0)), (3, .int (nI j))] [] (xwS κ q nn X2 ++ mwS κ q2 M2)) : xb_W κ Γ 4 cells slots 610 [(0, .ref b), (1, .ref (q 0)), (2, .ref (q2 0)), (3, .int (nI j))] [] (xwS κ q nn X ++ mwS κ q2 M) := by
  refine x_aload_n C dL_law_610 1 rfl ?_
  refine x_aload_n C dL_law_611 0 rfl ?_
  refine x_iload_n C dL_law_612 3 rfl ?_
  refine x_iconst (v := 1) C dL_law_613 (by decide) ?_
  refine x_iadd C dL_law_614 ?_
  refine x_topi (y := nI (j + 1)) (nI_add j 1).symm ?_
  refine x_sld C hX hbl hbA (vp_in_nI (by omega) (by omega)) dL_law_615 ?_
  refine x_aload_n C dL_law_616 0 rfl ?_
  refine x_iload_n C dL_law_617 3 rfl ?_
  refine x_iconst (v := 2) C dL_law_618 (by decide) ?_
  refine x_iadd C dL_law_619 ?_
  refine x_topi (y := nI (j + 2)) (nI_add j 2).symm ?_
  refine x_sld C hX hbl hbA (vp_in_nI (by omega) (by omega)) dL_law_620 ?_
  obtain ⟨r, X2, M2, hx, hm, hR2⟩ := H nn X M (xs (nI (j + 1)).toNatClampNeg) (xs (nI (j + 2)).toNatClampNeg) hR
  refine x_callLi (st := []) (As := [.int (xs (nI (j + 1)).toNatClampNeg), .int (xs (nI (j + 2)).toNatClampNeg)]) (wX := xwS κ q nn X) (wX2 := xwS κ q nn X2) C (cX_would (κ := (κ.1, κ.2.1, adr (xwS κ q nn X), κ.2.2.2)) hx) xm_X8_would ml_L_81 0 rfl rfl rfl rfl rfl rfl dL_law_621 hf ?_
  refine x_aload_n C dL_law_624 2 rfl ?_
  refine x_aload_n C dL_law_625 0 rfl ?_
  refine x_iload_n C dL_law_626 3 rfl ?_
  refine x_iconst (v := 1) C dL_law_627 (by decide) ?_
  refine x_iadd C dL_law_628 ?_
  refine x_topi (y := nI (j + 1)) (nI_add j 1).symm ?_
  refine x_sld C hX hbl hbA (vp_in_nI (by omega) (by omega)) dL_law_629 ?_
  refine x_aload_n C dL_law_630 0 rfl ?_
  refine x_iload_n C dL_law_631 3 rfl ?_
  refine x_iconst (v := 2) C dL_law_632 (by decide) ?_
  refine x_iadd C dL_law_633 ?_
  refine x_topi (y := nI (j + 2)) (nI_add j 2).symm ?_
  refine x_sld C hX hbl hbA (vp_in_nI (by omega) (by omega)) dL_law_634 ?_
  refine x_swap ?_
  refine x_callLi (st := [.int r]) (As := [.int (xs (nI (j + 1)).toNatClampNeg), .int (xs (nI (j + 2)).toNatClampNeg)]) (wX := mwS κ q2 M) (wX2 := mwS κ q2 M2) C (cM_would (κ := (κ.1, κ.2.1, adr (mwS κ q2 M), κ.2.2.2)) hm) xm_X9_would ml_L_84 0 rfl rfl rfl rfl rfl rfl dL_law_635 hf ?_
  refine x_swap ?_
  refine x_icmp_eq (tgt := 923) C dL_law_638 (by decide) (fun hc => ?_) (fun hc => absurd rfl hc)
  exact K X2 M2 hR2
set_option maxHeartbeats 4000000 in
set_option maxRecDepth 100000 in
theorem lc_forms {κ : xb_k} {Γ : xb_X} {cells slots : Nat} {b L nn j fu : Nat} {xs : Nat → Int32} {q q2 : Nat → Nat} {X : XS} {M : MS} {Rel : Nat → XS → MS → Prop} (C : xb_C κ Γ 4 cL_law RL room_1) (hX : va_X b L xs Γ.2.2.2.1 Γ.2.2.2.1.heap) (hbl : b < Γ.2.2.2.1.heap.size) (hbA : ¬ κ.2.2.1 b) (hL : L ≤ 2049) (hj : j + 3 < L) (hf : Nat.ble cells 600000 = true ∧ Nat.ble slots 7302249 = true) (hR : Rel nn X M) (H : OK_forms fu Rel) (K : ∀ (X2 : XS) (M2 : MS), Rel nn X2 M2 → xb_W κ Γ 4 cells slots 923 [(0, .ref b), (1, .ref (q 0)), (2, .ref (q2 0)), (3, .int (nI j))] [] (xwS κ q nn X2 ++ mwS κ q2 M2)) : xb_W κ Γ 4 cells slots 643 [(0, .ref b), (1, .ref (q 0)), (2, .ref (q2 0)), (3, .int (nI j))] [] (xwS κ q nn X ++ mwS κ q2 M) := by
  refine x_aload_n C dL_law_643 1 rfl ?_
  obtain ⟨r, X2, M2, hx, hm, hR2⟩ := H nn X M hR
  refine x_callLi (st := []) (As := []) (wX := xwS κ q nn X) (wX2 := xwS κ q nn X2) C (cX_forms (κ := (κ.1, κ.2.1, adr (xwS κ q nn X), κ.2.2.2)) hx) xm_X8_forms ml_L_85 0 rfl rfl rfl rfl rfl rfl dL_law_644 hf ?_
  refine x_aload_n C dL_law_647 2 rfl ?_
  refine x_swap ?_
  refine x_callLi (st := [.int r]) (As := []) (wX := mwS κ q2 M) (wX2 := mwS κ q2 M2) C (cM_forms (κ := (κ.1, κ.2.1, adr (mwS κ q2 M), κ.2.2.2)) hm) xm_X9_forms ml_L_88 0 rfl rfl rfl rfl rfl rfl dL_law_648 hf ?_
  refine x_swap ?_
  refine x_icmp_eq (tgt := 923) C dL_law_651 (by decide) (fun hc => ?_) (fun hc => absurd rfl hc)
  exact K X2 M2 hR2
set_option maxHeartbeats 4000000 in
set_option maxRecDepth 100000 in
theorem lc_best {κ : xb_k} {Γ : xb_X} {cells slots : Nat} {b L nn j fu : Nat} {xs : Nat → Int32} {q q2 : Nat → Nat} {X : XS} {M : MS} {Rel : Nat → XS → MS → Prop} (C : xb_C κ Γ 4 cL_law RL room_1) (hX : va_X b L xs Γ.2.2.2.1 Γ.2.2.2.1.heap) (hbl : b < Γ.2.2.2.1.heap.size) (hbA : ¬ κ.2.2.1 b) (hL : L ≤ 2049) (hj : j + 3 < L) (hf : Nat.ble cells 600000 = true ∧ Nat.ble slots 7302249 = true) (hR : Rel nn X M) (H : OK_best fu Rel) (K : ∀ (X2 : XS) (M2 : MS), Rel nn X2 M2 → xb_W κ Γ 4 cells slots 923 [(0, .ref b), (1, .ref (q 0)), (2, .ref (q2 0)), (3, .int (nI j))] [] (xwS κ q nn X2 ++ mwS κ q2 M2)) : xb_W κ Γ 4 cells slots 656 [(0, .ref b), (1, .ref (q 0)), (2, .ref (q2 0)), (3, .int (nI j))] [] (xwS κ q nn X ++ mwS κ q2 M) := by
  refine x_aload_n C dL_law_656 1 rfl ?_
  obtain ⟨r, X2, M2, hx, hm, hR2⟩ := H nn X M hR
  refine x_callLi (st := []) (As := []) (wX := xwS κ q nn X) (wX2 := xwS κ q nn X2) C (cX_best (κ := (κ.1, κ.2.1, adr (xwS κ q nn X), κ.2.2.2)) hx) xm_X8_best ml_L_89 0 rfl rfl rfl rfl rfl rfl dL_law_657 hf ?_
  refine x_aload_n C dL_law_660 2 rfl ?_
  refine x_swap ?_
  refine x_callLi (st := [.int r]) (As := []) (wX := mwS κ q2 M) (wX2 := mwS κ q2 M2) C (cM_best (κ := (κ.1, κ.2.1, adr (mwS κ q2 M), κ.2.2.2)) hm) xm_X9_best ml_L_92 0 rfl rfl rfl rfl rfl rfl dL_law_661 hf ?_
  refine x_swap ?_
  refine x_icmp_eq (tgt := 923) C dL_law_664 (by decide) (fun hc => ?_) (fun hc => absurd rfl hc)
  exact K X2 M2 hR2
set_option maxHeartbeats 4000000 in
set_option maxRecDepth 100000 in
theorem lc_bit {κ : xb_k} {Γ : xb_X} {cells slots : Nat} {b L nn j fu : Nat} {xs : Nat → Int32} {q q2 : Nat → Nat} {X : XS} {M : MS} {Rel : Nat → XS → MS → Prop} (C : xb_C κ Γ 4 cL_law RL room_1) (hX : va_X b L xs Γ.2.2.2.1 Γ.2.2.2.1.heap) (hbl : b < Γ.2.2.2.1.heap.size) (hbA : ¬ κ.2.2.1 b) (hL : L ≤ 2049) (hj : j + 3 < L) (hf : Nat.ble cells 600000 = true ∧ Nat.ble slots 7302249 = true) (hR : Rel nn X M) (H : OK_bit fu Rel) (K : ∀ (X2 : XS) (M2 : MS), Rel nn X2 M2 → xb_W κ Γ 4 cells slots 923 [(0, .ref b), (1, .ref (q 0)), (2, .ref (q2 0)), (3, .int (nI j))] [] (xwS κ q nn X2 ++ mwS κ q2 M2)) : xb_W κ Γ 4 cells slots 669 [(0, .ref b), (1, .ref (q 0)), (2, .ref (q2 0)), (3, .int (nI j))] [] (xwS κ q nn X ++ mwS κ q2 M) := by
  refine x_aload_n C dL_law_669 1 rfl ?_
  refine x_aload_n C dL_law_670 0 rfl ?_
  refine x_iload_n C dL_law_671 3 rfl ?_
  refine x_iconst (v := 1) C dL_law_672 (by decide) ?_
  refine x_iadd C dL_law_673 ?_
  refine x_topi (y := nI (j + 1)) (nI_add j 1).symm ?_
  refine x_sld C hX hbl hbA (vp_in_nI (by omega) (by omega)) dL_law_674 ?_
  obtain ⟨r, X2, M2, hx, hm, hR2⟩ := H nn X M (xs (nI (j + 1)).toNatClampNeg) hR
  refine x_callLi (st := []) (As := [.int (xs (nI (j + 1)).toNatClampNeg)]) (wX := xwS κ q nn X) (wX2 := xwS κ q nn X2) C (cX_bit (κ := (κ.1, κ.2.1, adr (xwS κ q nn X), κ.2.2.2)) hx) xm_X8_bit ml_L_93 0 rfl rfl rfl rfl rfl rfl dL_law_675 hf ?_
  refine x_aload_n C dL_law_678 2 rfl ?_
  refine x_aload_n C dL_law_679 0 rfl ?_
  refine x_iload_n C dL_law_680 3 rfl ?_
  refine x_iconst (v := 1) C dL_law_681 (by decide) ?_
  refine x_iadd C dL_law_682 ?_
  refine x_topi (y := nI (j + 1)) (nI_add j 1).symm ?_
  refine x_sld C hX hbl hbA (vp_in_nI (by omega) (by omega)) dL_law_683 ?_
  refine x_swap ?_
  refine x_callLi (st := [.int r]) (As := [.int (xs (nI (j + 1)).toNatClampNeg)]) (wX := mwS κ q2 M) (wX2 := mwS κ q2 M2) C (cM_bit (κ := (κ.1, κ.2.1, adr (mwS κ q2 M), κ.2.2.2)) hm) xm_X9_bit ml_L_96 0 rfl rfl rfl rfl rfl rfl dL_law_684 hf ?_
  refine x_swap ?_
  refine x_icmp_eq (tgt := 923) C dL_law_687 (by decide) (fun hc => ?_) (fun hc => absurd rfl hc)
  exact K X2 M2 hR2
set_option maxHeartbeats 4000000 in
set_option maxRecDepth 100000 in
theorem lc_place {κ : xb_k} {Γ : xb_X} {cells slots : Nat} {b L nn j fu : Nat} {xs : Nat → Int32} {q q2 : Nat → Nat} {X : XS} {M : MS} {Rel : Nat → XS → MS → Prop} (C : xb_C κ Γ 4 cL_law RL room_1) (hX : va_X b L xs Γ.2.2.2.1 Γ.2.2.2.1.heap) (hbl : b < Γ.2.2.2.1.heap.size) (hbA : ¬ κ.2.2.1 b) (hL : L ≤ 2049) (hj : j + 3 < L) (hf : Nat.ble cells 600000 = true ∧ Nat.ble slots 7302249 = true) (hR : Rel nn X M) (H : OK_place fu Rel) (K : ∀ (X2 : XS) (M2 : MS), Rel nn X2 M2 → xb_W κ Γ 4 cells slots 923 [(0, .ref b), (1, .ref (q 0)), (2, .ref (q2 0)), (3, .int (nI j))] [] (xwS κ q nn X2 ++ mwS κ q2 M2)) : xb_W κ Γ 4 cells slots 692 [(0, .ref b), (1, .ref (q 0)), (2, .ref (q2 0)), (3, .int (nI j))] [] (xwS κ q nn X ++ mwS κ q2 M) := by
  refine x_aload_n C dL_law_692 1 rfl ?_
  refine x_aload_n C dL_law_693 0 rfl ?_
  refine x_iload_n C dL_law_694 3 rfl ?_
  refine x_iconst (v := 1) C dL_law_695 (by decide) ?_
  refine x_iadd C dL_law_696 ?_
  refine x_topi (y := nI (j + 1)) (nI_add j 1).symm ?_
  refine x_sld C hX hbl hbA (vp_in_nI (by omega) (by omega)) dL_law_697 ?_
  obtain ⟨r, X2, M2, hx, hm, hR2⟩ := H nn X M (xs (nI (j + 1)).toNatClampNeg) hR
  refine x_callLi (st := []) (As := [.int (xs (nI (j + 1)).toNatClampNeg)]) (wX := xwS κ q nn X) (wX2 := xwS κ q nn X2) C (cX_place (κ := (κ.1, κ.2.1, adr (xwS κ q nn X), κ.2.2.2)) hx) xm_X8_place ml_L_97 0 rfl rfl rfl rfl rfl rfl dL_law_698 hf ?_
  refine x_aload_n C dL_law_701 2 rfl ?_
  refine x_aload_n C dL_law_702 0 rfl ?_
  refine x_iload_n C dL_law_703 3 rfl ?_
  refine x_iconst (v := 1) C dL_law_704 (by decide) ?_
  refine x_iadd C dL_law_705 ?_
  refine x_topi (y := nI (j + 1)) (nI_add j 1).symm ?_
  refine x_sld C hX hbl hbA (vp_in_nI (by omega) (by omega)) dL_law_706 ?_
  refine x_swap ?_
  refine x_callLi (st := [.int r]) (As := [.int (xs (nI (j + 1)).toNatClampNeg)]) (wX := mwS κ q2 M) (wX2 := mwS κ q2 M2) C (cM_place (κ := (κ.1, κ.2.1, adr (mwS κ q2 M), κ.2.2.2)) hm) xm_X9_place ml_L_100 0 rfl rfl rfl rfl rfl rfl dL_law_707 hf ?_
  refine x_swap ?_
  refine x_icmp_eq (tgt := 923) C dL_law_710 (by decide) (fun hc => ?_) (fun hc => absurd rfl hc)
  exact K X2 M2 hR2
set_option maxHeartbeats 4000000 in
set_option maxRecDepth 100000 in
theorem lc_sum {κ : xb_k} {Γ : xb_X} {cells slots : Nat} {b L nn j fu : Nat} {xs : Nat → Int32} {q q2 : Nat → Nat} {X : XS} {M : MS} {Rel : Nat → XS → MS → Prop} (C : xb_C κ Γ 4 cL_law RL room_1) (hX : va_X b L xs Γ.2.2.2.1 Γ.2.2.2.1.heap) (hbl : b < Γ.2.2.2.1.heap.size) (hbA : ¬ κ.2.2.1 b) (hL : L ≤ 2049) (hj : j + 3 < L) (hf : Nat.ble cells 600000 = true ∧ Nat.ble slots 7302249 = true) (hR : Rel nn X M) (H : OK_sum fu Rel) (K : ∀ (X2 : XS) (M2 : MS), Rel nn X2 M2 → xb_W κ Γ 4 cells slots 923 [(0, .ref b), (1, .ref (q 0)), (2, .ref (q2 0)), (3, .int (nI j))] [] (xwS κ q nn X2 ++ mwS κ q2 M2)) : xb_W κ Γ 4 cells slots 715 [(0, .ref b), (1, .ref (q 0)), (2, .ref (q2 0)), (3, .int (nI j))] [] (xwS κ q nn X ++ mwS κ q2 M) := by
  refine x_aload_n C dL_law_715 1 rfl ?_
  obtain ⟨r, X2, M2, hx, hm, hR2⟩ := H nn X M hR
  refine x_callLl (st := []) (As := []) (wX := xwS κ q nn X) (wX2 := xwS κ q nn X2) C (cX_sum (κ := (κ.1, κ.2.1, adr (xwS κ q nn X), κ.2.2.2)) hx) xm_X8_sum ml_L_101 0 rfl rfl rfl rfl rfl rfl dL_law_716 hf ?_
  refine x_aload_n C dL_law_719 2 rfl ?_
  refine x_swap ?_
  refine x_callLl (st := [.long r]) (As := []) (wX := mwS κ q2 M) (wX2 := mwS κ q2 M2) C (cM_sum (κ := (κ.1, κ.2.1, adr (mwS κ q2 M), κ.2.2.2)) hm) xm_X9_sum ml_L_105 0 rfl rfl rfl rfl rfl rfl dL_law_720 hf ?_
  refine x_swap ?_
  refine x_lcmp C dL_law_723 ?_
  refine x_if_eq (tgt := 923) C dL_law_724 (by decide) (fun hc => ?_) (fun hc => absurd (lg_self r) hc)
  exact K X2 M2 hR2
set_option maxHeartbeats 4000000 in
set_option maxRecDepth 100000 in
theorem lc_alter {κ : xb_k} {Γ : xb_X} {cells slots : Nat} {b L nn j fu : Nat} {xs : Nat → Int32} {q q2 : Nat → Nat} {X : XS} {M : MS} {Rel : Nat → XS → MS → Prop} (C : xb_C κ Γ 4 cL_law RL room_1) (hX : va_X b L xs Γ.2.2.2.1 Γ.2.2.2.1.heap) (hbl : b < Γ.2.2.2.1.heap.size) (hbA : ¬ κ.2.2.1 b) (hL : L ≤ 2049) (hj : j + 3 < L) (hf : Nat.ble cells 600000 = true ∧ Nat.ble slots 7302249 = true) (hR : Rel nn X M) (H : OK_alter fu Rel) (K : ∀ (X2 : XS) (M2 : MS), Rel nn X2 M2 → xb_W κ Γ 4 cells slots 923 [(0, .ref b), (1, .ref (q 0)), (2, .ref (q2 0)), (3, .int (nI j))] [] (xwS κ q nn X2 ++ mwS κ q2 M2)) : xb_W κ Γ 4 cells slots 729 [(0, .ref b), (1, .ref (q 0)), (2, .ref (q2 0)), (3, .int (nI j))] [] (xwS κ q nn X ++ mwS κ q2 M) := by
  refine x_aload_n C dL_law_729 1 rfl ?_
  refine x_aload_n C dL_law_730 0 rfl ?_
  refine x_iload_n C dL_law_731 3 rfl ?_
  refine x_iconst (v := 1) C dL_law_732 (by decide) ?_
  refine x_iadd C dL_law_733 ?_
  refine x_topi (y := nI (j + 1)) (nI_add j 1).symm ?_
  refine x_sld C hX hbl hbA (vp_in_nI (by omega) (by omega)) dL_law_734 ?_
  refine x_aload_n C dL_law_735 0 rfl ?_
  refine x_iload_n C dL_law_736 3 rfl ?_
  refine x_iconst (v := 2) C dL_law_737 (by decide) ?_
  refine x_iadd C dL_law_738 ?_
  refine x_topi (y := nI (j + 2)) (nI_add j 2).symm ?_
  refine x_sld C hX hbl hbA (vp_in_nI (by omega) (by omega)) dL_law_739 ?_
  obtain ⟨r, X2, M2, hx, hm, hR2⟩ := H nn X M (xs (nI (j + 1)).toNatClampNeg) (xs (nI (j + 2)).toNatClampNeg) hR
  refine x_callLi (st := []) (As := [.int (xs (nI (j + 1)).toNatClampNeg), .int (xs (nI (j + 2)).toNatClampNeg)]) (wX := xwS κ q nn X) (wX2 := xwS κ q nn X2) C (cX_alter (κ := (κ.1, κ.2.1, adr (xwS κ q nn X), κ.2.2.2)) hx) xm_X8_alter ml_L_106 0 rfl rfl rfl rfl rfl rfl dL_law_740 hf ?_
  refine x_aload_n C dL_law_743 2 rfl ?_
  refine x_aload_n C dL_law_744 0 rfl ?_
  refine x_iload_n C dL_law_745 3 rfl ?_
  refine x_iconst (v := 1) C dL_law_746 (by decide) ?_
  refine x_iadd C dL_law_747 ?_
  refine x_topi (y := nI (j + 1)) (nI_add j 1).symm ?_
  refine x_sld C hX hbl hbA (vp_in_nI (by omega) (by omega)) dL_law_748 ?_
  refine x_aload_n C dL_law_749 0 rfl ?_
  refine x_iload_n C dL_law_750 3 rfl ?_
  refine x_iconst (v := 2) C dL_law_751 (by decide) ?_
  refine x_iadd C dL_law_752 ?_
  refine x_topi (y := nI (j + 2)) (nI_add j 2).symm ?_
  refine x_sld C hX hbl hbA (vp_in_nI (by omega) (by omega)) dL_law_753 ?_
  refine x_swap ?_
  refine x_callLi (st := [.int r]) (As := [.int (xs (nI (j + 1)).toNatClampNeg), .int (xs (nI (j + 2)).toNatClampNeg)]) (wX := mwS κ q2 M) (wX2 := mwS κ q2 M2) C (cM_alter (κ := (κ.1, κ.2.1, adr (mwS κ q2 M), κ.2.2.2)) hm) xm_X9_alter ml_L_109 0 rfl rfl rfl rfl rfl rfl dL_law_754 hf ?_
  refine x_swap ?_
  refine x_icmp_eq (tgt := 923) C dL_law_757 (by decide) (fun hc => ?_) (fun hc => absurd rfl hc)
  exact K X2 M2 hR2
set_option maxHeartbeats 4000000 in
set_option maxRecDepth 100000 in
theorem lc_judge {κ : xb_k} {Γ : xb_X} {cells slots : Nat} {b L nn j fu : Nat} {xs : Nat → Int32} {q q2 : Nat → Nat} {X : XS} {M : MS} {Rel : Nat → XS → MS → Prop} (C : xb_C κ Γ 4 cL_law RL room_1) (hX : va_X b L xs Γ.2.2.2.1 Γ.2.2.2.1.heap) (hbl : b < Γ.2.2.2.1.heap.size) (hbA : ¬ κ.2.2.1 b) (hL : L ≤ 2049) (hj : j + 3 < L) (hf : Nat.ble cells 600000 = true ∧ Nat.ble slots 7302249 = true) (hR : Rel nn X M) (H : OK_judge fu Rel) (K : ∀ (X2 : XS) (M2 : MS), Rel nn X2 M2 → xb_W κ Γ 4 cells slots 923 [(0, .ref b), (1, .ref (q 0)), (2, .ref (q2 0)), (3, .int (nI j))] [] (xwS κ q nn X2 ++ mwS κ q2 M2)) : xb_W κ Γ 4 cells slots 762 [(0, .ref b), (1, .ref (q 0)), (2, .ref (q2 0)), (3, .int (nI j))] [] (xwS κ q nn X ++ mwS κ q2 M) := by
  refine x_aload_n C dL_law_762 1 rfl ?_
  obtain ⟨r, X2, M2, hx, hm, hR2⟩ := H nn X M hR
  refine x_callLi (st := []) (As := []) (wX := xwS κ q nn X) (wX2 := xwS κ q nn X2) C (cX_judge (κ := (κ.1, κ.2.1, adr (xwS κ q nn X), κ.2.2.2)) hx) xm_X8_judge ml_L_110 0 rfl rfl rfl rfl rfl rfl dL_law_763 hf ?_
  refine x_aload_n C dL_law_766 2 rfl ?_
  refine x_swap ?_
  refine x_callLi (st := [.int r]) (As := []) (wX := mwS κ q2 M) (wX2 := mwS κ q2 M2) C (cM_judge (κ := (κ.1, κ.2.1, adr (mwS κ q2 M), κ.2.2.2)) hm) xm_X9_judge ml_L_113 0 rfl rfl rfl rfl rfl rfl dL_law_767 hf ?_
  refine x_swap ?_
  refine x_icmp_eq (tgt := 923) C dL_law_770 (by decide) (fun hc => ?_) (fun hc => absurd rfl hc)
  exact K X2 M2 hR2
set_option maxHeartbeats 4000000 in
set_option maxRecDepth 100000 in
theorem lc_order {κ : xb_k} {Γ : xb_X} {cells slots : Nat} {b L nn j fu : Nat} {xs : Nat → Int32} {q q2 : Nat → Nat} {X : XS} {M : MS} {Rel : Nat → XS → MS → Prop} (C : xb_C κ Γ 4 cL_law RL room_1) (hX : va_X b L xs Γ.2.2.2.1 Γ.2.2.2.1.heap) (hbl : b < Γ.2.2.2.1.heap.size) (hbA : ¬ κ.2.2.1 b) (hL : L ≤ 2049) (hj : j + 3 < L) (hf : Nat.ble cells 600000 = true ∧ Nat.ble slots 7302249 = true) (hR : Rel nn X M) (H : OK_order fu Rel) (K : ∀ (X2 : XS) (M2 : MS), Rel nn X2 M2 → xb_W κ Γ 4 cells slots 923 [(0, .ref b), (1, .ref (q 0)), (2, .ref (q2 0)), (3, .int (nI j))] [] (xwS κ q nn X2 ++ mwS κ q2 M2)) : xb_W κ Γ 4 cells slots 775 [(0, .ref b), (1, .ref (q 0)), (2, .ref (q2 0)), (3, .int (nI j))] [] (xwS κ q nn X ++ mwS κ q2 M) := by
  refine x_aload_n C dL_law_775 1 rfl ?_
  refine x_aload_n C dL_law_776 0 rfl ?_
  refine x_iload_n C dL_law_777 3 rfl ?_
  refine x_iconst (v := 1) C dL_law_778 (by decide) ?_
  refine x_iadd C dL_law_779 ?_
  refine x_topi (y := nI (j + 1)) (nI_add j 1).symm ?_
  refine x_sld C hX hbl hbA (vp_in_nI (by omega) (by omega)) dL_law_780 ?_
  refine x_aload_n C dL_law_781 0 rfl ?_
  refine x_iload_n C dL_law_782 3 rfl ?_
  refine x_iconst (v := 2) C dL_law_783 (by decide) ?_
  refine x_iadd C dL_law_784 ?_
  refine x_topi (y := nI (j + 2)) (nI_add j 2).symm ?_
  refine x_sld C hX hbl hbA (vp_in_nI (by omega) (by omega)) dL_law_785 ?_
  obtain ⟨r, X2, M2, hx, hm, hR2⟩ := H nn X M (xs (nI (j + 1)).toNatClampNeg) (xs (nI (j + 2)).toNatClampNeg) hR
  refine x_callLi (st := []) (As := [.int (xs (nI (j + 1)).toNatClampNeg), .int (xs (nI (j + 2)).toNatClampNeg)]) (wX := xwS κ q nn X) (wX2 := xwS κ q nn X2) C (cX_order (κ := (κ.1, κ.2.1, adr (xwS κ q nn X), κ.2.2.2)) hx) xm_X8_order ml_L_114 0 rfl rfl rfl rfl rfl rfl dL_law_786 hf ?_
  refine x_aload_n C dL_law_789 2 rfl ?_
  refine x_aload_n C dL_law_790 0 rfl ?_
  refine x_iload_n C dL_law_791 3 rfl ?_
  refine x_iconst (v := 1) C dL_law_792 (by decide) ?_
  refine x_iadd C dL_law_793 ?_
  refine x_topi (y := nI (j + 1)) (nI_add j 1).symm ?_
  refine x_sld C hX hbl hbA (vp_in_nI (by omega) (by omega)) dL_law_794 ?_
  refine x_aload_n C dL_law_795 0 rfl ?_
  refine x_iload_n C dL_law_796 3 rfl ?_
  refine x_iconst (v := 2) C dL_law_797 (by decide) ?_
  refine x_iadd C dL_law_798 ?_
  refine x_topi (y := nI (j + 2)) (nI_add j 2).symm ?_
  refine x_sld C hX hbl hbA (vp_in_nI (by omega) (by omega)) dL_law_799 ?_
  refine x_swap ?_
  refine x_callLi (st := [.int r]) (As := [.int (xs (nI (j + 1)).toNatClampNeg), .int (xs (nI (j + 2)).toNatClampNeg)]) (wX := mwS κ q2 M) (wX2 := mwS κ q2 M2) C (cM_order (κ := (κ.1, κ.2.1, adr (mwS κ q2 M), κ.2.2.2)) hm) xm_X9_order ml_L_117 0 rfl rfl rfl rfl rfl rfl dL_law_800 hf ?_
  refine x_swap ?_
  refine x_icmp_eq (tgt := 923) C dL_law_803 (by decide) (fun hc => ?_) (fun hc => absurd rfl hc)
  exact K X2 M2 hR2
set_option maxHeartbeats 4000000 in
set_option maxRecDepth 100000 in
theorem lc_renumber {κ : xb_k} {Γ : xb_X} {cells slots : Nat} {b L nn j fu : Nat} {xs : Nat → Int32} {q q2 : Nat → Nat} {X : XS} {M : MS} {Rel : Nat → XS → MS → Prop} (C : xb_C κ Γ 4 cL_law RL room_1) (hX : va_X b L xs Γ.2.2.2.1 Γ.2.2.2.1.heap) (hbl : b < Γ.2.2.2.1.heap.size) (hbA : ¬ κ.2.2.1 b) (hL : L ≤ 2049) (hj : j + 3 < L) (hf : Nat.ble cells 600000 = true ∧ Nat.ble slots 7302249 = true) (hR : Rel nn X M) (H : OK_renumber fu Rel) (K : ∀ (X2 : XS) (M2 : MS), Rel nn X2 M2 → xb_W κ Γ 4 cells slots 923 [(0, .ref b), (1, .ref (q 0)), (2, .ref (q2 0)), (3, .int (nI j))] [] (xwS κ q nn X2 ++ mwS κ q2 M2)) : xb_W κ Γ 4 cells slots 808 [(0, .ref b), (1, .ref (q 0)), (2, .ref (q2 0)), (3, .int (nI j))] [] (xwS κ q nn X ++ mwS κ q2 M) := by
  refine x_aload_n C dL_law_808 1 rfl ?_
  refine x_aload_n C dL_law_809 0 rfl ?_
  refine x_iload_n C dL_law_810 3 rfl ?_
  refine x_iconst (v := 1) C dL_law_811 (by decide) ?_
  refine x_iadd C dL_law_812 ?_
  refine x_topi (y := nI (j + 1)) (nI_add j 1).symm ?_
  refine x_sld C hX hbl hbA (vp_in_nI (by omega) (by omega)) dL_law_813 ?_
  obtain ⟨r, X2, M2, hx, hm, hR2⟩ := H nn X M (xs (nI (j + 1)).toNatClampNeg) hR
  refine x_callLi (st := []) (As := [.int (xs (nI (j + 1)).toNatClampNeg)]) (wX := xwS κ q nn X) (wX2 := xwS κ q nn X2) C (cX_renumber (κ := (κ.1, κ.2.1, adr (xwS κ q nn X), κ.2.2.2)) hx) xm_X8_renumber ml_L_118 0 rfl rfl rfl rfl rfl rfl dL_law_814 hf ?_
  refine x_aload_n C dL_law_817 2 rfl ?_
  refine x_aload_n C dL_law_818 0 rfl ?_
  refine x_iload_n C dL_law_819 3 rfl ?_
  refine x_iconst (v := 1) C dL_law_820 (by decide) ?_
  refine x_iadd C dL_law_821 ?_
  refine x_topi (y := nI (j + 1)) (nI_add j 1).symm ?_
  refine x_sld C hX hbl hbA (vp_in_nI (by omega) (by omega)) dL_law_822 ?_
  refine x_swap ?_
  refine x_callLi (st := [.int r]) (As := [.int (xs (nI (j + 1)).toNatClampNeg)]) (wX := mwS κ q2 M) (wX2 := mwS κ q2 M2) C (cM_renumber (κ := (κ.1, κ.2.1, adr (mwS κ q2 M), κ.2.2.2)) hm) xm_X9_renumber ml_L_121 0 rfl rfl rfl rfl rfl rfl dL_law_823 hf ?_
  refine x_swap ?_
  refine x_icmp_eq (tgt := 923) C dL_law_826 (by decide) (fun hc => ?_) (fun hc => absurd rfl hc)
  exact K X2 M2 hR2
set_option maxHeartbeats 4000000 in
set_option maxRecDepth 100000 in
theorem lc_threes {κ : xb_k} {Γ : xb_X} {cells slots : Nat} {b L nn j fu : Nat} {xs : Nat → Int32} {q q2 : Nat → Nat} {X : XS} {M : MS} {Rel : Nat → XS → MS → Prop} (C : xb_C κ Γ 4 cL_law RL room_1) (hX : va_X b L xs Γ.2.2.2.1 Γ.2.2.2.1.heap) (hbl : b < Γ.2.2.2.1.heap.size) (hbA : ¬ κ.2.2.1 b) (hL : L ≤ 2049) (hj : j + 3 < L) (hf : Nat.ble cells 600000 = true ∧ Nat.ble slots 7302249 = true) (hR : Rel nn X M) (H : OK_threes fu Rel) (K : ∀ (X2 : XS) (M2 : MS), Rel nn X2 M2 → xb_W κ Γ 4 cells slots 923 [(0, .ref b), (1, .ref (q 0)), (2, .ref (q2 0)), (3, .int (nI j))] [] (xwS κ q nn X2 ++ mwS κ q2 M2)) : xb_W κ Γ 4 cells slots 831 [(0, .ref b), (1, .ref (q 0)), (2, .ref (q2 0)), (3, .int (nI j))] [] (xwS κ q nn X ++ mwS κ q2 M) := by
  refine x_aload_n C dL_law_831 1 rfl ?_
  obtain ⟨r, X2, M2, hx, hm, hR2⟩ := H nn X M hR
  refine x_callLi (st := []) (As := []) (wX := xwS κ q nn X) (wX2 := xwS κ q nn X2) C (cX_threes (κ := (κ.1, κ.2.1, adr (xwS κ q nn X), κ.2.2.2)) hx) xm_X8_threes ml_L_122 0 rfl rfl rfl rfl rfl rfl dL_law_832 hf ?_
  refine x_aload_n C dL_law_835 2 rfl ?_
  refine x_swap ?_
  refine x_callLi (st := [.int r]) (As := []) (wX := mwS κ q2 M) (wX2 := mwS κ q2 M2) C (cM_threes (κ := (κ.1, κ.2.1, adr (mwS κ q2 M), κ.2.2.2)) hm) xm_X9_threes ml_L_125 0 rfl rfl rfl rfl rfl rfl dL_law_836 hf ?_
  refine x_swap ?_
  refine x_icmp_eq (tgt := 923) C dL_law_839 (by decide) (fun hc => ?_) (fun hc => absurd rfl hc)
  exact K X2 M2 hR2
set_option maxHeartbeats 4000000 in
set_option maxRecDepth 100000 in
theorem lc_parts {κ : xb_k} {Γ : xb_X} {cells slots : Nat} {b L nn j fu : Nat} {xs : Nat → Int32} {q q2 : Nat → Nat} {X : XS} {M : MS} {Rel : Nat → XS → MS → Prop} (C : xb_C κ Γ 4 cL_law RL room_1) (hX : va_X b L xs Γ.2.2.2.1 Γ.2.2.2.1.heap) (hbl : b < Γ.2.2.2.1.heap.size) (hbA : ¬ κ.2.2.1 b) (hL : L ≤ 2049) (hj : j + 3 < L) (hf : Nat.ble cells 600000 = true ∧ Nat.ble slots 7302249 = true) (hR : Rel nn X M) (H : OK_parts fu Rel) (K : ∀ (X2 : XS) (M2 : MS), Rel nn X2 M2 → xb_W κ Γ 4 cells slots 923 [(0, .ref b), (1, .ref (q 0)), (2, .ref (q2 0)), (3, .int (nI j))] [] (xwS κ q nn X2 ++ mwS κ q2 M2)) : xb_W κ Γ 4 cells slots 844 [(0, .ref b), (1, .ref (q 0)), (2, .ref (q2 0)), (3, .int (nI j))] [] (xwS κ q nn X ++ mwS κ q2 M) := by
  refine x_aload_n C dL_law_844 1 rfl ?_
  refine x_aload_n C dL_law_845 0 rfl ?_
  refine x_iload_n C dL_law_846 3 rfl ?_
  refine x_iconst (v := 1) C dL_law_847 (by decide) ?_
  refine x_iadd C dL_law_848 ?_
  refine x_topi (y := nI (j + 1)) (nI_add j 1).symm ?_
  refine x_sld C hX hbl hbA (vp_in_nI (by omega) (by omega)) dL_law_849 ?_
  obtain ⟨r, X2, M2, hx, hm, hR2⟩ := H nn X M (xs (nI (j + 1)).toNatClampNeg) hR
  refine x_callLi (st := []) (As := [.int (xs (nI (j + 1)).toNatClampNeg)]) (wX := xwS κ q nn X) (wX2 := xwS κ q nn X2) C (cX_parts (κ := (κ.1, κ.2.1, adr (xwS κ q nn X), κ.2.2.2)) hx) xm_X8_parts ml_L_126 0 rfl rfl rfl rfl rfl rfl dL_law_850 hf ?_
  refine x_aload_n C dL_law_853 2 rfl ?_
  refine x_aload_n C dL_law_854 0 rfl ?_
  refine x_iload_n C dL_law_855 3 rfl ?_
  refine x_iconst (v := 1) C dL_law_856 (by decide) ?_
  refine x_iadd C dL_law_857 ?_
  refine x_topi (y := nI (j + 1)) (nI_add j 1).symm ?_
  refine x_sld C hX hbl hbA (vp_in_nI (by omega) (by omega)) dL_law_858 ?_
  refine x_swap ?_
  refine x_callLi (st := [.int r]) (As := [.int (xs (nI (j + 1)).toNatClampNeg)]) (wX := mwS κ q2 M) (wX2 := mwS κ q2 M2) C (cM_parts (κ := (κ.1, κ.2.1, adr (mwS κ q2 M), κ.2.2.2)) hm) xm_X9_parts ml_L_129 0 rfl rfl rfl rfl rfl rfl dL_law_859 hf ?_
  refine x_swap ?_
  refine x_icmp_eq (tgt := 923) C dL_law_862 (by decide) (fun hc => ?_) (fun hc => absurd rfl hc)
  exact K X2 M2 hR2
set_option maxHeartbeats 4000000 in
set_option maxRecDepth 100000 in
theorem lc_far {κ : xb_k} {Γ : xb_X} {cells slots : Nat} {b L nn j fu : Nat} {xs : Nat → Int32} {q q2 : Nat → Nat} {X : XS} {M : MS} {Rel : Nat → XS → MS → Prop} (C : xb_C κ Γ 4 cL_law RL room_1) (hX : va_X b L xs Γ.2.2.2.1 Γ.2.2.2.1.heap) (hbl : b < Γ.2.2.2.1.heap.size) (hbA : ¬ κ.2.2.1 b) (hL : L ≤ 2049) (hj : j + 3 < L) (hf : Nat.ble cells 600000 = true ∧ Nat.ble slots 7302249 = true) (hR : Rel nn X M) (H : OK_far fu Rel) (K : ∀ (X2 : XS) (M2 : MS), Rel nn X2 M2 → xb_W κ Γ 4 cells slots 923 [(0, .ref b), (1, .ref (q 0)), (2, .ref (q2 0)), (3, .int (nI j))] [] (xwS κ q nn X2 ++ mwS κ q2 M2)) : xb_W κ Γ 4 cells slots 867 [(0, .ref b), (1, .ref (q 0)), (2, .ref (q2 0)), (3, .int (nI j))] [] (xwS κ q nn X ++ mwS κ q2 M) := by
  refine x_aload_n C dL_law_867 1 rfl ?_
  refine x_aload_n C dL_law_868 0 rfl ?_
  refine x_iload_n C dL_law_869 3 rfl ?_
  refine x_iconst (v := 1) C dL_law_870 (by decide) ?_
  refine x_iadd C dL_law_871 ?_
  refine x_topi (y := nI (j + 1)) (nI_add j 1).symm ?_
  refine x_sld C hX hbl hbA (vp_in_nI (by omega) (by omega)) dL_law_872 ?_
  refine x_aload_n C dL_law_873 0 rfl ?_
  refine x_iload_n C dL_law_874 3 rfl ?_
  refine x_iconst (v := 2) C dL_law_875 (by decide) ?_
  refine x_iadd C dL_law_876 ?_
  refine x_topi (y := nI (j + 2)) (nI_add j 2).symm ?_
  refine x_sld C hX hbl hbA (vp_in_nI (by omega) (by omega)) dL_law_877 ?_
  obtain ⟨r, X2, M2, hx, hm, hR2⟩ := H nn X M (xs (nI (j + 1)).toNatClampNeg) (xs (nI (j + 2)).toNatClampNeg) hR
  refine x_callLi (st := []) (As := [.int (xs (nI (j + 1)).toNatClampNeg), .int (xs (nI (j + 2)).toNatClampNeg)]) (wX := xwS κ q nn X) (wX2 := xwS κ q nn X2) C (cX_far (κ := (κ.1, κ.2.1, adr (xwS κ q nn X), κ.2.2.2)) hx) xm_X8_far ml_L_130 0 rfl rfl rfl rfl rfl rfl dL_law_878 hf ?_
  refine x_aload_n C dL_law_881 2 rfl ?_
  refine x_aload_n C dL_law_882 0 rfl ?_
  refine x_iload_n C dL_law_883 3 rfl ?_
  refine x_iconst (v := 1) C dL_law_884 (by decide) ?_
  refine x_iadd C dL_law_885 ?_
  refine x_topi (y := nI (j + 1)) (nI_add j 1).symm ?_
  refine x_sld C hX hbl hbA (vp_in_nI (by omega) (by omega)) dL_law_886 ?_
  refine x_aload_n C dL_law_887 0 rfl ?_
  refine x_iload_n C dL_law_888 3 rfl ?_
  refine x_iconst (v := 2) C dL_law_889 (by decide) ?_
  refine x_iadd C dL_law_890 ?_
  refine x_topi (y := nI (j + 2)) (nI_add j 2).symm ?_
  refine x_sld C hX hbl hbA (vp_in_nI (by omega) (by omega)) dL_law_891 ?_
  refine x_swap ?_
  refine x_callLi (st := [.int r]) (As := [.int (xs (nI (j + 1)).toNatClampNeg), .int (xs (nI (j + 2)).toNatClampNeg)]) (wX := mwS κ q2 M) (wX2 := mwS κ q2 M2) C (cM_far (κ := (κ.1, κ.2.1, adr (mwS κ q2 M), κ.2.2.2)) hm) xm_X9_far ml_L_133 0 rfl rfl rfl rfl rfl rfl dL_law_892 hf ?_
  refine x_swap ?_
  refine x_icmp_eq (tgt := 923) C dL_law_895 (by decide) (fun hc => ?_) (fun hc => absurd rfl hc)
  exact K X2 M2 hR2
set_option maxHeartbeats 4000000 in
set_option maxRecDepth 100000 in
theorem lc_count {κ : xb_k} {Γ : xb_X} {cells slots : Nat} {b L nn j fu : Nat} {xs : Nat → Int32} {q q2 : Nat → Nat} {X : XS} {M : MS} {Rel : Nat → XS → MS → Prop} (C : xb_C κ Γ 4 cL_law RL room_1) (hX : va_X b L xs Γ.2.2.2.1 Γ.2.2.2.1.heap) (hbl : b < Γ.2.2.2.1.heap.size) (hbA : ¬ κ.2.2.1 b) (hL : L ≤ 2049) (hj : j + 3 < L) (hf : Nat.ble cells 600000 = true ∧ Nat.ble slots 7302249 = true) (hR : Rel nn X M) (H : OK_count fu Rel) (K : ∀ (X2 : XS) (M2 : MS), Rel nn X2 M2 → xb_W κ Γ 4 cells slots 923 [(0, .ref b), (1, .ref (q 0)), (2, .ref (q2 0)), (3, .int (nI j))] [] (xwS κ q nn X2 ++ mwS κ q2 M2)) : xb_W κ Γ 4 cells slots 900 [(0, .ref b), (1, .ref (q 0)), (2, .ref (q2 0)), (3, .int (nI j))] [] (xwS κ q nn X ++ mwS κ q2 M) := by
  refine x_aload_n C dL_law_900 1 rfl ?_
  refine x_aload_n C dL_law_901 0 rfl ?_
  refine x_iload_n C dL_law_902 3 rfl ?_
  refine x_iconst (v := 1) C dL_law_903 (by decide) ?_
  refine x_iadd C dL_law_904 ?_
  refine x_topi (y := nI (j + 1)) (nI_add j 1).symm ?_
  refine x_sld C hX hbl hbA (vp_in_nI (by omega) (by omega)) dL_law_905 ?_
  obtain ⟨r, X2, M2, hx, hm, hR2⟩ := H nn X M (xs (nI (j + 1)).toNatClampNeg) hR
  refine x_callLi (st := []) (As := [.int (xs (nI (j + 1)).toNatClampNeg)]) (wX := xwS κ q nn X) (wX2 := xwS κ q nn X2) C (cX_count (κ := (κ.1, κ.2.1, adr (xwS κ q nn X), κ.2.2.2)) hx) xm_X8_count ml_L_134 0 rfl rfl rfl rfl rfl rfl dL_law_906 hf ?_
  refine x_aload_n C dL_law_909 2 rfl ?_
  refine x_aload_n C dL_law_910 0 rfl ?_
  refine x_iload_n C dL_law_911 3 rfl ?_
  refine x_iconst (v := 1) C dL_law_912 (by decide) ?_
  refine x_iadd C dL_law_913 ?_
  refine x_topi (y := nI (j + 1)) (nI_add j 1).symm ?_
  refine x_sld C hX hbl hbA (vp_in_nI (by omega) (by omega)) dL_law_914 ?_
  refine x_swap ?_
  refine x_callLi (st := [.int r]) (As := [.int (xs (nI (j + 1)).toNatClampNeg)]) (wX := mwS κ q2 M) (wX2 := mwS κ q2 M2) C (cM_count (κ := (κ.1, κ.2.1, adr (mwS κ q2 M), κ.2.2.2)) hm) xm_X9_count ml_L_137 0 rfl rfl rfl rfl rfl rfl dL_law_915 hf ?_
  refine x_swap ?_
  refine x_icmp_eq (tgt := 923) C dL_law_918 (by decide) (fun hc => ?_) (fun hc => absurd rfl hc)
  exact K X2 M2 hR2
def OK_all (fu : Nat) (Rel : Nat → XS → MS → Prop) : Prop := OK_pair fu Rel ∧ OK_drop fu Rel ∧ OK_has fu Rel ∧ OK_next fu Rel ∧ OK_degree fu Rel ∧ OK_meet fu Rel ∧ OK_back fu Rel ∧ OK_form fu Rel ∧ OK_setting fu Rel ∧ OK_length fu Rel ∧ OK_cost fu Rel ∧ OK_pack fu Rel ∧ OK_told fu Rel ∧ OK_looked fu Rel ∧ OK_would fu Rel ∧ OK_forms fu Rel ∧ OK_best fu Rel ∧ OK_bit fu Rel ∧ OK_place fu Rel ∧ OK_sum fu Rel ∧ OK_alter fu Rel ∧ OK_judge fu Rel ∧ OK_order fu Rel ∧ OK_renumber fu Rel ∧ OK_threes fu Rel ∧ OK_parts fu Rel ∧ OK_far fu Rel ∧ OK_count fu Rel
set_option maxHeartbeats 4000000 in
set_option maxRecDepth 100000 in
theorem law_sw {κ : xb_k} {Γ : xb_X} {cells slots : Nat} {b L nn j fu : Nat} {xs : Nat → Int32} {q q2 : Nat → Nat} {X : XS} {M : MS} {Rel : Nat → XS → MS → Prop} (C : xb_C κ Γ 4 cL_law RL room_1) (hX : va_X b L xs Γ.2.2.2.1 Γ.2.2.2.1.heap) (hbl : b < Γ.2.2.2.1.heap.size) (hbA : ¬ κ.2.2.1 b) (hL : L ≤ 2049) (hj : j + 3 < L) (hf : Nat.ble cells 600000 = true ∧ Nat.ble slots 7302249 = true) (hR : Rel nn X M) (H : OK_all fu Rel) (K : ∀ (X2 : XS) (M2 : MS), Rel nn X2 M2 → xb_W κ Γ 4 cells slots 923 [(0, .ref b), (1, .ref (q 0)), (2, .ref (q2 0)), (3, .int (nI j))] [] (xwS κ q nn X2 ++ mwS κ q2 M2)) (v : Int32) : xb_W κ Γ 4 cells slots 42 [(0, .ref b), (1, .ref (q 0)), (2, .ref (q2 0)), (3, .int (nI j))] [.int v] (xwS κ q nn X ++ mwS κ q2 M) := by
  by_cases h0 : v = 0
  · refine x_tswIn (off := 126) (tgt := 168) 0 C dL_law_42 h0 (by decide) (by decide) rfl (by decide) ?_
    exact lc_pair C hX hbl hbA hL hj hf hR H.1 K
  by_cases h1 : v = 1
  · refine x_tswIn (off := 159) (tgt := 201) 1 C dL_law_42 h1 (by decide) (by decide) rfl (by decide) ?_
    exact lc_drop C hX hbl hbA hL hj hf hR H.2.1 K
  by_cases h2 : v = 2
  · refine x_tswIn (off := 192) (tgt := 234) 2 C dL_law_42 h2 (by decide) (by decide) rfl (by decide) ?_
    exact lc_has C hX hbl hbA hL hj hf hR H.2.2.1 K
  by_cases h3 : v = 3
  · refine x_tswIn (off := 225) (tgt := 267) 3 C dL_law_42 h3 (by decide) (by decide) rfl (by decide) ?_
    exact lc_next C hX hbl hbA hL hj hf hR H.2.2.2.1 K
  by_cases h4 : v = 4
  · refine x_tswIn (off := 258) (tgt := 300) 4 C dL_law_42 h4 (by decide) (by decide) rfl (by decide) ?_
    exact lc_degree C hX hbl hbA hL hj hf hR H.2.2.2.2.1 K
  by_cases h5 : v = 5
  · refine x_tswIn (off := 291) (tgt := 333) 5 C dL_law_42 h5 (by decide) (by decide) rfl (by decide) ?_
    exact lc_meet C hX hbl hbA hL hj hf hR H.2.2.2.2.2.1 K
  by_cases h6 : v = 6
  · refine x_tswIn (off := 324) (tgt := 366) 6 C dL_law_42 h6 (by decide) (by decide) rfl (by decide) ?_
    exact lc_back C hX hbl hbA hL hj hf hR H.2.2.2.2.2.2.1 K
  by_cases h7 : v = 7
  · refine x_tswIn (off := 357) (tgt := 399) 7 C dL_law_42 h7 (by decide) (by decide) rfl (by decide) ?_
    exact lc_form C hX hbl hbA hL hj hf hR H.2.2.2.2.2.2.2.1 K
  by_cases h8 : v = 8
  · refine x_tswIn (off := 390) (tgt := 432) 8 C dL_law_42 h8 (by decide) (by decide) rfl (by decide) ?_
    exact lc_setting C hX hbl hbA hL hj hf hR H.2.2.2.2.2.2.2.2.1 K
  by_cases h9 : v = 9
  · refine x_tswIn (off := 423) (tgt := 465) 9 C dL_law_42 h9 (by decide) (by decide) rfl (by decide) ?_
    exact lc_length C hX hbl hbA hL hj hf hR H.2.2.2.2.2.2.2.2.2.1 K
  by_cases h10 : v = 10
  · refine x_tswIn (off := 456) (tgt := 498) 10 C dL_law_42 h10 (by decide) (by decide) rfl (by decide) ?_
    exact lc_cost C hX hbl hbA hL hj hf hR H.2.2.2.2.2.2.2.2.2.2.1 K
  by_cases h11 : v = 11
  · refine x_tswIn (off := 499) (tgt := 541) 11 C dL_law_42 h11 (by decide) (by decide) rfl (by decide) ?_
    exact lc_pack C hX hbl hbA hL hj hf hR H.2.2.2.2.2.2.2.2.2.2.2.1 K
  by_cases h12 : v = 12
  · refine x_tswIn (off := 512) (tgt := 554) 12 C dL_law_42 h12 (by decide) (by decide) rfl (by decide) ?_
    exact lc_told C hX hbl hbA hL hj hf hR H.2.2.2.2.2.2.2.2.2.2.2.2.1 K
  by_cases h13 : v = 13
  · refine x_tswIn (off := 545) (tgt := 587) 13 C dL_law_42 h13 (by decide) (by decide) rfl (by decide) ?_
    exact lc_looked C hX hbl hbA hL hj hf hR H.2.2.2.2.2.2.2.2.2.2.2.2.2.1 K
  by_cases h14 : v = 14
  · refine x_tswIn (off := 568) (tgt := 610) 14 C dL_law_42 h14 (by decide) (by decide) rfl (by decide) ?_
    exact lc_would C hX hbl hbA hL hj hf hR H.2.2.2.2.2.2.2.2.2.2.2.2.2.2.1 K
  by_cases h15 : v = 15
  · refine x_tswIn (off := 601) (tgt := 643) 15 C dL_law_42 h15 (by decide) (by decide) rfl (by decide) ?_
    exact lc_forms C hX hbl hbA hL hj hf hR H.2.2.2.2.2.2.2.2.2.2.2.2.2.2.2.1 K
  by_cases h16 : v = 16
  · refine x_tswIn (off := 614) (tgt := 656) 16 C dL_law_42 h16 (by decide) (by decide) rfl (by decide) ?_
    exact lc_best C hX hbl hbA hL hj hf hR H.2.2.2.2.2.2.2.2.2.2.2.2.2.2.2.2.1 K
  by_cases h17 : v = 17
  · refine x_tswIn (off := 627) (tgt := 669) 17 C dL_law_42 h17 (by decide) (by decide) rfl (by decide) ?_
    exact lc_bit C hX hbl hbA hL hj hf hR H.2.2.2.2.2.2.2.2.2.2.2.2.2.2.2.2.2.1 K
  by_cases h18 : v = 18
  · refine x_tswIn (off := 650) (tgt := 692) 18 C dL_law_42 h18 (by decide) (by decide) rfl (by decide) ?_
    exact lc_place C hX hbl hbA hL hj hf hR H.2.2.2.2.2.2.2.2.2.2.2.2.2.2.2.2.2.2.1 K
  by_cases h19 : v = 19
  · refine x_tswIn (off := 673) (tgt := 715) 19 C dL_law_42 h19 (by decide) (by decide) rfl (by decide) ?_
    exact lc_sum C hX hbl hbA hL hj hf hR H.2.2.2.2.2.2.2.2.2.2.2.2.2.2.2.2.2.2.2.1 K
  by_cases h20 : v = 20
  · refine x_tswIn (off := 687) (tgt := 729) 20 C dL_law_42 h20 (by decide) (by decide) rfl (by decide) ?_
    exact lc_alter C hX hbl hbA hL hj hf hR H.2.2.2.2.2.2.2.2.2.2.2.2.2.2.2.2.2.2.2.2.1 K
  by_cases h21 : v = 21
  · refine x_tswIn (off := 720) (tgt := 762) 21 C dL_law_42 h21 (by decide) (by decide) rfl (by decide) ?_
    exact lc_judge C hX hbl hbA hL hj hf hR H.2.2.2.2.2.2.2.2.2.2.2.2.2.2.2.2.2.2.2.2.2.1 K
  by_cases h22 : v = 22
  · refine x_tswIn (off := 733) (tgt := 775) 22 C dL_law_42 h22 (by decide) (by decide) rfl (by decide) ?_
    exact lc_order C hX hbl hbA hL hj hf hR H.2.2.2.2.2.2.2.2.2.2.2.2.2.2.2.2.2.2.2.2.2.2.1 K
  by_cases h23 : v = 23
  · refine x_tswIn (off := 766) (tgt := 808) 23 C dL_law_42 h23 (by decide) (by decide) rfl (by decide) ?_
    exact lc_renumber C hX hbl hbA hL hj hf hR H.2.2.2.2.2.2.2.2.2.2.2.2.2.2.2.2.2.2.2.2.2.2.2.1 K
  by_cases h24 : v = 24
  · refine x_tswIn (off := 789) (tgt := 831) 24 C dL_law_42 h24 (by decide) (by decide) rfl (by decide) ?_
    exact lc_threes C hX hbl hbA hL hj hf hR H.2.2.2.2.2.2.2.2.2.2.2.2.2.2.2.2.2.2.2.2.2.2.2.2.1 K
  by_cases h25 : v = 25
  · refine x_tswIn (off := 802) (tgt := 844) 25 C dL_law_42 h25 (by decide) (by decide) rfl (by decide) ?_
    exact lc_parts C hX hbl hbA hL hj hf hR H.2.2.2.2.2.2.2.2.2.2.2.2.2.2.2.2.2.2.2.2.2.2.2.2.2.1 K
  by_cases h26 : v = 26
  · refine x_tswIn (off := 825) (tgt := 867) 26 C dL_law_42 h26 (by decide) (by decide) rfl (by decide) ?_
    exact lc_far C hX hbl hbA hL hj hf hR H.2.2.2.2.2.2.2.2.2.2.2.2.2.2.2.2.2.2.2.2.2.2.2.2.2.2.1 K
  by_cases h27 : v = 27
  · refine x_tswIn (off := 858) (tgt := 900) 27 C dL_law_42 h27 (by decide) (by decide) rfl (by decide) ?_
    exact lc_count C hX hbl hbA hL hj hf hR H.2.2.2.2.2.2.2.2.2.2.2.2.2.2.2.2.2.2.2.2.2.2.2.2.2.2.2 K
  refine x_tswOut (tgt := 923) C dL_law_42 (ts_out 27 (by decide) (fun k hk => by match k, hk with | 0, _ => exact h0 | 1, _ => exact h1 | 2, _ => exact h2 | 3, _ => exact h3 | 4, _ => exact h4 | 5, _ => exact h5 | 6, _ => exact h6 | 7, _ => exact h7 | 8, _ => exact h8 | 9, _ => exact h9 | 10, _ => exact h10 | 11, _ => exact h11 | 12, _ => exact h12 | 13, _ => exact h13 | 14, _ => exact h14 | 15, _ => exact h15 | 16, _ => exact h16 | 17, _ => exact h17 | 18, _ => exact h18 | 19, _ => exact h19 | 20, _ => exact h20 | 21, _ => exact h21 | 22, _ => exact h22 | 23, _ => exact h23 | 24, _ => exact h24 | 25, _ => exact h25 | 26, _ => exact h26 | 27, _ => exact h27 | (k + 28), hk => exact absurd hk (by omega))) (by decide) ?_
  exact K X M hR
set_option maxHeartbeats 4000000 in
set_option maxRecDepth 100000 in
theorem law_loop {κ : xb_k} {Γ : xb_X} {cells slots : Nat} {b L nn fu : Nat} {xs : Nat → Int32} {q q2 : Nat → Nat} {Rel : Nat → XS → MS → Prop} (C : xb_C κ Γ 4 cL_law RL room_1) (hX : va_X b L xs Γ.2.2.2.1 Γ.2.2.2.1.heap) (hbl : b < Γ.2.2.2.1.heap.size) (hbA : ¬ κ.2.2.1 b) (hL : L ≤ 2049) (hf : Nat.ble cells 600000 = true ∧ Nat.ble slots 7302249 = true) (H : OK_all fu Rel) (Z : ∀ (lv : List (Nat × Value)) (X : XS) (M : MS), xb_W κ Γ 4 cells slots 929 lv [] (xwS κ q nn X ++ mwS κ q2 M)) : ∀ (n j : Nat) (X : XS) (M : MS), Rel nn X M → j < 3000 → L < j + 4 * n → xb_W κ Γ 4 cells slots 28 [(0, .ref b), (1, .ref (q 0)), (2, .ref (q2 0)), (3, .int (nI j))] [] (xwS κ q nn X ++ mwS κ q2 M) := by
  intro n
  induction n with
  | zero =>
    intro j X M hR hj3 hn
    refine x_iload_n C dL_law_28 3 rfl ?_
    refine x_aload_n C dL_law_29 0 rfl ?_
    refine x_slen C hX hbl hbA dL_law_30 ?_
    refine x_iconst (v := 4) C dL_law_31 (by decide) ?_
    refine x_isub C dL_law_32 ?_
    refine x_icmp_gt (tgt := 929) C dL_law_33 (by decide) (fun hc => ?_) (fun hc => ?_)
    · exact Z _ X M
    · exact absurd (law_gt hL hj3 (by omega)) hc
  | succ n ih =>
    intro j X M hR hj3 hn
    refine x_iload_n C dL_law_28 3 rfl ?_
    refine x_aload_n C dL_law_29 0 rfl ?_
    refine x_slen C hX hbl hbA dL_law_30 ?_
    refine x_iconst (v := 4) C dL_law_31 (by decide) ?_
    refine x_isub C dL_law_32 ?_
    refine x_icmp_gt (tgt := 929) C dL_law_33 (by decide) (fun hc => ?_) (fun hc => ?_)
    · exact Z _ X M
    · have hj : j + 3 < L := by
        rcases Nat.lt_or_ge (j + 3) L with h | h
        · exact h
        · exact absurd (law_gt hL hj3 (by omega)) hc
      refine x_aload_n C dL_law_36 0 rfl ?_
      refine x_iload_n C dL_law_37 3 rfl ?_
      refine x_sld C hX hbl hbA (vp_in_nI (by omega) (by omega)) dL_law_38 ?_
      refine x_bipush (v := 31) C dL_law_39 (by decide) ?_
      refine x_iand C dL_law_41 ?_
      refine law_sw C hX hbl hbA hL hj hf hR H (fun X2 M2 hR2 => ?_) _
      refine x_iinc (v := nI (j + 4)) (lv2 := [(3, .int (nI (j + 4))), (0, .ref b), (1, .ref (q 0)), (2, .ref (q2 0))]) C dL_law_923 3 rfl (nI_add j 4) (by decide) rfl ?_
      refine x_goto (tgt := 28) C dL_law_926 (by decide) ?_
      exact x_sub [1, 2, 3, 0] rfl (ih (j + 4) X2 M2 hR2 (by omega) (by omega))

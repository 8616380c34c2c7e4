/-! two worlds side by side: a call changes one of them -/
theorem sp_P {D : va_G} {cl : List vw_C} {a b : va_W} {H : Heap} (h : va_P D cl (a ++ b) H) : va_P D cl a H ∧ va_P D cl b H := by
  refine ⟨fun k q hk => ?_, fun k q hk => ?_⟩
  · obtain ⟨i, hi⟩ := List.getElem?_of_mem (List.mem_append_left b (List.mem_of_getElem? hk))
    exact h i q hi
  · obtain ⟨i, hi⟩ := List.getElem?_of_mem (List.mem_append_right a (List.mem_of_getElem? hk))
    exact h i q hi
theorem sp_D {A : Nat → Prop} {a b : va_W} (h : va_D A (a ++ b)) : va_D A a ∧ va_D A b ∧ ∀ (i j : Nat) (p q : Nat × va_E), a[i]? = some p → b[j]? = some q → p.1 ≠ q.1 := by
  have hl : ∀ (i : Nat) (p : Nat × va_E), a[i]? = some p → (a ++ b)[i]? = some p ∧ i < a.length := fun i p hi => by
    have := (List.getElem?_eq_some_iff.mp hi).1
    exact ⟨by rw [List.getElem?_append_left this]; exact hi, this⟩
  have hr : ∀ (i : Nat) (p : Nat × va_E), b[i]? = some p → (a ++ b)[a.length + i]? = some p := fun i p hi => by
    rw [List.getElem?_append_right (by omega), Nat.add_sub_cancel_left]; exact hi
  refine ⟨⟨fun i j p q hi hj e => h.1 i j p q (hl i p hi).1 (hl j q hj).1 e, fun k q hk => h.2 k q (hl k q hk).1⟩, ⟨fun i j p q hi hj e => ?_, fun k q hk => h.2 _ q (hr k q hk)⟩, fun i j p q hi hj e => ?_⟩
  · have := h.1 _ _ p q (hr i p hi) (hr j q hj) e
    omega
  · have := h.1 _ _ p q (hl i p hi).1 (hr j q hj) e
    have := (hl i p hi).2
    omega
def adr (w : va_W) : Nat → Prop := fun a => ∃ (k : Nat) (e : va_E), w[k]? = some (a, e)
theorem xb_Z.narrow {A : (Nat → Prop) × Nat × Nat} {B : Nat → Prop} {U : State} {H : Heap} (h : xb_Z A U H) (hAB : ∀ q, B q → A.1 q) : xb_Z (B, A.2) U H := by
  obtain ⟨h1, h2, h3, h4⟩ := h
  exact ⟨h1.narrow hAB, h2.narrow hAB, h3.narrow hAB, h4.narrow hAB⟩
section
variable {κ : xb_k} {Γ : xb_X} {nL cells slots pc : Nat} {lv : List (Nat × Value)} {st : List Value} {ws : va_W} {cc : ByteArray} {own : String} {rm : Room}
theorem x_swap {a b : va_W} (k : xb_W κ Γ nL cells slots pc lv st (b ++ a)) : xb_W κ Γ nL cells slots pc lv st (a ++ b) := by
  intro H locs ls hP hD hS hl
  obtain ⟨p1, p2⟩ := sp_P hP
  obtain ⟨d1, d2, dx⟩ := sp_D hD
  exact k H locs ls (p2.app p1) (d2.app d1 (fun i j p q hi hj e => dx j i q p hj hi e.symm)) hS hl
theorem x_runL {y : MethodName} {cls : String} {cb : ByteArray} {maxL n idx : Nat} {ret : Option FieldType} {rmc : Room} {Qc : Array Value → State → Outcome → State → Prop} {As st0 : List Value} {b q0 ci : Nat} {T : u_T} {N : Nat} {fs : List Value} {H : Heap} {locs : List Loc} {ls : Array Slot} {wX wM : va_W} (C : xb_C κ Γ nL cc own rm) (hM : Met κ.1 y [Cond.code y cb maxL ret] rmc (xb_P (κ.1, κ.2.1, adr wX, κ.2.2.2) (.ref b :: As) wX) Qc 0 0 (adr wX)) (hm : xm_V y cls cb maxL ret n) (hlk : Cond.methodLink own idx y ∈ xb_tbl) (hc : vwCl[ci]? = some (cls, T, N)) (he : wX[q0]? = some (b, .inr (ci, fs))) (hr : (rmc.cells == 0 && rmc.slots == 0 && Nat.ble (rmc.frames + 1) rm.frames && Nat.ble (8 + (maxL + 11) + rmc.locals) rm.locals) = true) (hn : As.length = n) (hst : st0 = As.reverse ++ .ref b :: st) (hrm : Nat.ble (st.map fun v => v.category).sum 8 = true) (hd : decode cc pc = .ok (.invokevirtual idx, 3)) (hf : Nat.ble cells rm.cells = true ∧ Nat.ble slots rm.slots = true) (hP : va_P κ.2.1.1 vwCl (wX ++ wM) H) (hD : va_D κ.2.2.1 (wX ++ wM)) (hS : va_S κ.2.2.1 Γ.2.2.2.1.heap H locs) (hl : lv_has ls nL lv) : va_Run Γ.1 κ.1 Γ.2.1 Γ.2.2.1 Γ.2.2.2.1 Γ.2.2.2.2.1 Γ.2.2.2.2.2.1 Γ.2.2.2.2.2.2.1 Γ.2.2.2.2.2.2.2.1 Γ.2.2.2.2.2.2.2.2.1 H locs cells slots 0 0 (F0 Γ.2.2.2.2.1 pc ls st0) st (Qc (Value.ref b :: As).toArray) (adr wX) := by
  obtain ⟨h1, h2, h3, h4⟩ := x_rm hr
  rw [← C.2.2.2.2.2.2] at h3 h4 hf
  have hN := C.2.2.2.2.1.2.1
  obtain ⟨m1, m2, m3, m4, rfl, m6⟩ := hm
  obtain ⟨p1, p2⟩ := sp_P hP
  obtain ⟨d1, d2, dx⟩ := sp_D hD
  have hAB : ∀ q, adr wX q → κ.2.2.1 q := fun q hq => by obtain ⟨k, e, hk⟩ := hq; exact d1.2 k (q, e) hk
  exact va_runV ⟨C.1, C.2.1, C.2.2.1, C.2.2.2.1, hN.all⟩ hM ⟨callB_of n hN.all (x_good m4) rfl h1 h2 (hN.get m3) (hN.get hlk) m6 ⟨h3, h4⟩, hN.get m1, hN.get m2⟩ ⟨xb_P.blind, va_recv C.2.2.2.2.1.1 p1 hc he, fun U hU hW => ⟨rfl, by rw [hU]; exact p1, ⟨d1.1, fun k q hk => ⟨k, q.2, hk⟩⟩, va_K.moved hW.alike C.2.2.2.2.1.1, hN.warm hW, by rw [hU]; exact ((C.2.2.2.2.1.2.2.kept hS.2.1).narrow hAB).moved hW.alike⟩⟩ rfl hn hl.1 hst (lv_room (Nat.le_of_ble_eq_true hrm)) hd ⟨Nat.le_of_ble_eq_true hf.1, Nat.le_of_ble_eq_true hf.2⟩
theorem x_backL {H H1 : Heap} {wX wX2 wM : va_W} (hP : va_P κ.2.1.1 vwCl (wX ++ wM) H) (hD : va_D κ.2.2.1 (wX ++ wM)) (hk : ∀ q : Nat, q < H.size → ¬ adr wX q → H1[q]? = H[q]?) (hP1 : va_P κ.2.1.1 vwCl wX2 H1) (hD1 : va_D (adr wX) wX2) : va_P κ.2.1.1 vwCl (wX2 ++ wM) H1 ∧ va_D κ.2.2.1 (wX2 ++ wM) := by
  obtain ⟨p1, p2⟩ := sp_P hP
  obtain ⟨d1, d2, dx⟩ := sp_D hD
  have hAB : ∀ q, adr wX q → κ.2.2.1 q := fun q hq => by obtain ⟨k, e, hk⟩ := hq; exact d1.2 k (q, e) hk
  have hno : ∀ (j : Nat) (q : Nat × va_E), wM[j]? = some q → ¬ adr wX q.1 := fun j q hj hq => by obtain ⟨k, e, hk⟩ := hq; exact dx k j (q.1, e) q hk hj rfl
  refine ⟨hP1.app (p2.kept (fun k x hx => hk x.1 ((p2 k x hx).lt) (hno k x hx))), (hD1.weaken (fun k q _ h => hAB q.1 h)).app d2 (fun i j p q hi hj e => ?_)⟩
  have := hD1.2 i p hi
  rw [e] at this
  exact hno j q hj this
theorem x_callLi {y : MethodName} {cls : String} {cb : ByteArray} {maxL n idx : Nat} {ret : Option FieldType} {rmc : Room} {As st0 : List Value} {b ci : Nat} {T : u_T} {N : Nat} {fs : List Value} {wX wX2 wM : va_W} {r : Int32} (C : xb_C κ Γ nL cc own rm) (hM : Met κ.1 y [Cond.code y cb maxL ret] rmc (xb_P (κ.1, κ.2.1, adr wX, κ.2.2.2) (.ref b :: As) wX) (xb_Qi (κ.1, κ.2.1, adr wX, κ.2.2.2) r wX2) 0 0 (adr wX)) (hm : xm_V y cls cb maxL ret n) (hlk : Cond.methodLink own idx y ∈ xb_tbl) (q0 : Nat) (hc : vwCl[ci]? = some (cls, T, N)) (he : wX[q0]? = some (b, .inr (ci, fs))) (hr : (rmc.cells == 0 && rmc.slots == 0 && Nat.ble (rmc.frames + 1) rm.frames && Nat.ble (8 + (maxL + 11) + rmc.locals) rm.locals) = true) (hn : As.length = n) (hst : st0 = As.reverse ++ .ref b :: st) (hrm : Nat.ble (st.map fun v => v.category).sum 8 = true) (hd : decode cc pc = .ok (.invokevirtual idx, 3)) (hf : Nat.ble cells rm.cells = true ∧ Nat.ble slots rm.slots = true) (k : xb_W κ Γ nL cells slots (pc + 3) lv (.int r :: st) (wX2 ++ wM)) : xb_W κ Γ nL cells slots pc lv st0 (wX ++ wM) := by
  intro H locs ls hP hD hS hl
  have hAB : ∀ q, adr wX q → κ.2.2.1 q := fun q hq => by obtain ⟨k, e, hk⟩ := hq; exact (sp_D hD).1.2 k (q, e) hk
  refine va_calli (x_runL C hM hm hlk hc he hr hn hst hrm hd hf hP hD hS hl) hS (fun q _ h => hAB q h) hAB (fun x u t H1 locs1 ht hvm hx hB hz hk hS1 => ?_)
  subst hx
  obtain ⟨a1, a2⟩ := x_backL hP hD hk (ht ▸ hB.1) hB.2
  exact k H1 locs1 ls a1 a2 hS1 hl
theorem x_callLl {y : MethodName} {cls : String} {cb : ByteArray} {maxL n idx : Nat} {ret : Option FieldType} {rmc : Room} {As st0 : List Value} {b ci : Nat} {T : u_T} {N : Nat} {fs : List Value} {wX wX2 wM : va_W} {r : Int64} (C : xb_C κ Γ nL cc own rm) (hM : Met κ.1 y [Cond.code y cb maxL ret] rmc (xb_P (κ.1, κ.2.1, adr wX, κ.2.2.2) (.ref b :: As) wX) (xb_Ql (κ.1, κ.2.1, adr wX, κ.2.2.2) r wX2) 0 0 (adr wX)) (hm : xm_V y cls cb maxL ret n) (hlk : Cond.methodLink own idx y ∈ xb_tbl) (q0 : Nat) (hc : vwCl[ci]? = some (cls, T, N)) (he : wX[q0]? = some (b, .inr (ci, fs))) (hr : (rmc.cells == 0 && rmc.slots == 0 && Nat.ble (rmc.frames + 1) rm.frames && Nat.ble (8 + (maxL + 11) + rmc.locals) rm.locals) = true) (hn : As.length = n) (hst : st0 = As.reverse ++ .ref b :: st) (hrm : Nat.ble (st.map fun v => v.category).sum 8 = true) (hd : decode cc pc = .ok (.invokevirtual idx, 3)) (hf : Nat.ble cells rm.cells = true ∧ Nat.ble slots rm.slots = true) (k : xb_W κ Γ nL cells slots (pc + 3) lv (.long r :: st) (wX2 ++ wM)) : xb_W κ Γ nL cells slots pc lv st0 (wX ++ wM) := by
  intro H locs ls hP hD hS hl
  have hAB : ∀ q, adr wX q → κ.2.2.1 q := fun q hq => by obtain ⟨k, e, hk⟩ := hq; exact (sp_D hD).1.2 k (q, e) hk
  refine va_calll (x_runL C hM hm hlk hc he hr hn hst hrm hd hf hP hD hS hl) hS (fun q _ h => hAB q h) hAB (fun x u t H1 locs1 ht hvm hx hB hz hk hS1 => ?_)
  subst hx
  obtain ⟨a1, a2⟩ := x_backL hP hD hk (ht ▸ hB.1) hB.2
  exact k H1 locs1 ls a1 a2 hS1 hl
/-- the script -/
theorem x_sld {b L : Nat} {xs : Nat → Int32} {i : Int32} (C : xb_C κ Γ nL cc own rm) (hX : va_X b L xs Γ.2.2.2.1 Γ.2.2.2.1.heap) (hbl : b < Γ.2.2.2.1.heap.size) (hbA : ¬ κ.2.2.1 b) (hin : vp_in i L) (hd : decode cc pc = .ok (.iaload, 1)) (k : xb_W κ Γ nL cells slots (pc + 1) lv (.int (xs i.toNatClampNeg) :: st) ws) : xb_W κ Γ nL cells slots pc lv (.int i :: .ref b :: st) ws := fun H locs ls hP hD hS hl => va_sld C.1 C.2.1 hX hbl hbA hS hin hd (k H locs ls hP hD hS hl)
theorem x_slen {b L : Nat} {xs : Nat → Int32} (C : xb_C κ Γ nL cc own rm) (hX : va_X b L xs Γ.2.2.2.1 Γ.2.2.2.1.heap) (hbl : b < Γ.2.2.2.1.heap.size) (hbA : ¬ κ.2.2.1 b) (hd : decode cc pc = .ok (.arraylength, 1)) (k : xb_W κ Γ nL cells slots (pc + 1) lv (.int (nI L) :: st) ws) : xb_W κ Γ nL cells slots pc lv (.ref b :: st) ws := fun H locs ls hP hD hS hl => va_slen C.1 C.2.1 hX hbl hbA hS hd (k H locs ls hP hD hS hl)
end
/-- a method's head with one more word on the start -/
theorem x_enterX {κ : xb_k} {y : MethodName} {cc : ByteArray} {maxL : Nat} {ret : Option FieldType} {rm : Room} {av : List Value} {ws : va_W} {Qc : Array Value → State → Outcome → State → Prop} {mc ms : Nat} {own : String} {lv0 : List (Nat × Value)} {Ex : State → Prop} (hy : plainName y.cls = true) (hown : y.cls = own) (hn : Nat.ble (lg_sl av).length maxL = true) (hlv : lv_args 0 av = lv0)
    (body : ∀ Γ : xb_X, xb_C κ Γ maxL cc own rm → xb_E κ Γ Qc mc ms ret → Ex Γ.2.2.2.1 → xb_W κ Γ maxL 0 0 0 lv0 [] ws) : Met κ.1 y [Cond.code y cc maxL ret] rm (fun a U => xb_P κ av ws a U ∧ Ex U) Qc mc ms κ.2.2.1 := by
  refine Met.ofW (cc := cc) (maxL := maxL) (ret := ret) hy rfl ?_
  intro p e s m args below meth c s₁ B hml hv
  obtain ⟨⟨rfl, hP, hD, hR⟩, hE⟩ := hv
  have hown' : s.vm.findClass own = some m.cls := hown ▸ findClass_of_methodNamed B.named
  have hl := lv_entry av (n := maxL) (Nat.le_of_ble_eq_true hn)
  rw [hlv] at hl
  rw [lg_entry_eq]
  exact body (p, e, rm, s, m, av.toArray, below, meth, c, MQ below Qc av.toArray s mc ms κ.2.2.1) ⟨B.exec, B.bytes, hml, hown', hR, B.notSynchronized, rfl⟩ ⟨rfl, B.returns⟩ hE s.heap [] _ hP hD va_S.rf hl
def sc0 (L : Nat) (xs : Nat → Int32) : Int32 := if nI L ≤ 0 then 0 else xs (0 : Int32).toNatClampNeg
theorem xm_L_cell : xm_S yL_cell RL cL_cell 2 (some .int) 2 := ⟨kt_L_cell, kn_L, kc_L_cell, by decide +kernel⟩
set_option maxRecDepth 100000 in
theorem c_cell {κ : xb_k} {ws : va_W} {b L : Nat} {xs : Nat → Int32} (hL : L ≤ 2049) : Met κ.1 yL_cell [Cond.code yL_cell cL_cell 2 (some .int)] { frames := 0, cells := 0, slots := 0, locals := 0 } (fun a U => xb_P κ [.ref b, .int 0] ws a U ∧ (va_X b L xs U U.heap ∧ b < U.heap.size ∧ ¬ κ.2.2.1 b)) (xb_Qi κ (sc0 L xs) ws) 0 0 κ.2.2.1 := by
  refine x_enterX (own := RL) (lv0 := [(0, .ref b), (1, .int 0)]) (by decide) rfl rfl rfl (fun Γ C E hE => ?_)
  obtain ⟨hX, hbl, hbA⟩ := hE
  unfold sc0 at E
  refine x_iload_n C dL_cell_0 1 rfl ?_
  refine x_aload_n C dL_cell_1 0 rfl ?_
  refine x_slen C hX hbl hbA dL_cell_2 ?_
  refine x_icmp_ge (tgt := 12) C dL_cell_3 (by decide) (fun hc => ?_) (fun hc => ?_)
  · rw [if_pos hc] at E
    refine x_iconst (v := 0) C dL_cell_12 (by decide) ?_
    exact x_iret C E dL_cell_13
  · rw [if_neg hc] at E
    refine x_aload_n C dL_cell_6 0 rfl ?_
    refine x_iload_n C dL_cell_7 1 rfl ?_
    refine x_sld C hX hbl hbA (el_in (by decide) hc (by omega)) dL_cell_8 ?_
    refine x_goto (tgt := 13) C dL_cell_9 (by decide) ?_
    exact x_iret C E dL_cell_13
theorem x_cell {κ : xb_k} {Γ : xb_X} {nL cells slots pc idx : Nat} {lv : List (Nat × Value)} {st : List Value} {ws : va_W} {cc : ByteArray} {own : String} {rm : Room} {b L : Nat} {xs : Nat → Int32} (hL : L ≤ 2049) (C : xb_C κ Γ nL cc own rm) (hX : va_X b L xs Γ.2.2.2.1 Γ.2.2.2.1.heap) (hbl : b < Γ.2.2.2.1.heap.size) (hbA : ¬ κ.2.2.1 b) (hlk : Cond.methodLink own idx yL_cell ∈ xb_tbl) (hr : (Nat.ble 1 rm.frames && Nat.ble 21 rm.locals) = true) (hrm : Nat.ble (st.map fun v => v.category).sum 8 = true) (hd : decode cc pc = .ok (.invokestatic idx, 3)) (hf : Nat.ble cells rm.cells = true ∧ Nat.ble slots rm.slots = true) (k : xb_W κ Γ nL cells slots (pc + 3) lv (.int (sc0 L xs) :: st) ws) : xb_W κ Γ nL cells slots pc lv (.int 0 :: .ref b :: st) ws := by
  intro H locs ls hP hD hS hl
  rw [Bool.and_eq_true] at hr
  have h3 := Nat.le_of_ble_eq_true hr.1
  have h4 := Nat.le_of_ble_eq_true hr.2
  rw [← C.2.2.2.2.2.2] at h3 h4 hf
  have hN := C.2.2.2.2.1.2.1
  obtain ⟨m1, m3, m4, -, m6⟩ := xm_L_cell
  refine va_calli (va_runS (As := [.ref b, .int 0]) ⟨C.1, C.2.1, C.2.2.1, C.2.2.2.1, hN.all⟩ (c_cell (κ := κ) (ws := ws) (xs := xs) hL) ⟨callB_of 2 hN.all (x_good m4) rfl rfl rfl (hN.get m3) (hN.get hlk) m6 ⟨by simpa using h3, by simpa using h4⟩, hN.get m1⟩ ⟨fun a U g mk q => ⟨xb_P.blind a U g mk q.1, q.2.1.moved (u := U) (U := U.calling g mk a) (Vm.Alike.refl U.vm), q.2.2⟩, fun U hU hW => ⟨⟨rfl, by rw [hU]; exact hP, hD, C.2.2.2.2.1.call hS hU hW⟩, by rw [hU]; exact (hX.kept (hS.2.1 b hbl hbA)).moved hW.alike, by rw [hU]; exact Nat.lt_of_lt_of_le hbl hS.1, hbA⟩⟩ rfl rfl hl.1 rfl (lv_room (Nat.le_of_ble_eq_true hrm)) hd ⟨Nat.le_of_ble_eq_true hf.1, Nat.le_of_ble_eq_true hf.2⟩) hS (fun _ _ h => h) (fun _ h => h) (fun x u t H1 locs1 ht hvm hx hB hz hk hS1 => ?_)
  subst hx
  exact k H1 locs1 ls (ht ▸ hB.1) hB.2 hS1 hl

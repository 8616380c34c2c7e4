/-! constructors: cells that come; the newest stands first -/
theorem rot_P {D : va_G} {cl : List vw_C} {ws : va_W} {x : Nat × va_E} {H : Heap} (h : va_P D cl (ws ++ [x]) H) : va_P D cl (x :: ws) H := by
  intro k q hk
  have hm : q ∈ ws ++ [x] := by
    rcases List.mem_cons.mp (List.mem_of_getElem? hk) with e | e
    · rw [e]; exact List.mem_append_right _ (List.mem_singleton.mpr rfl)
    · exact List.mem_append_left _ e
  obtain ⟨i, hi⟩ := List.getElem?_of_mem hm
  exact h i q hi
theorem rot_D {A : Nat → Prop} {ws : va_W} {x : Nat × va_E} (h : va_D A (ws ++ [x])) : va_D A (x :: ws) := by
  have key : ∀ (k : Nat) (q : Nat × va_E), (x :: ws)[k]? = some q → ∃ j : Nat, (ws ++ [x])[j]? = some q ∧ (k = 0 → j = ws.length) ∧ (0 < k → j = k - 1 ∧ j < ws.length) := by
    intro k q hk
    match k, hk with
    | 0, hk =>
      refine ⟨ws.length, ?_, fun _ => rfl, fun h => absurd h (by omega)⟩
      rw [List.getElem?_append_right (Nat.le_refl _), Nat.sub_self]
      exact hk
    | k + 1, hk =>
      have hk' : ws[k]? = some q := hk
      have hl : k < ws.length := (List.getElem?_eq_some_iff.mp hk').1
      exact ⟨k, by rw [List.getElem?_append_left hl]; exact hk', fun h => absurd h (by omega), fun _ => ⟨by omega, hl⟩⟩
  refine ⟨fun i j p q hi hj e => ?_, fun k q hk => ?_⟩
  · obtain ⟨a, a1, a2, a3⟩ := key i p hi
    obtain ⟨b, b1, b2, b3⟩ := key j q hj
    have e2 := h.1 a b p q a1 b1 e
    rcases Nat.eq_zero_or_pos i with z | z <;> rcases Nat.eq_zero_or_pos j with z2 | z2
    · omega
    · have := a2 z; have := b3 z2; omega
    · have := a3 z; have := b2 z2; omega
    · have := a3 z; have := b3 z2; omega
  · obtain ⟨a, a1, -, -⟩ := key k q hk
    exact h.2 a q a1
def xb_PA (κ : xb_k) (av : List Value) (ws : va_W) : Array Value → State → Prop := fun a U => xb_P κ av ws a U ∧ ∀ q : Nat, U.heap.size ≤ q → κ.2.2.1 q
def xb_QA {S : Type} (κ : xb_k) (wf : S → va_W) : Array Value → State → Outcome → State → Prop := va_Qv (fun _ : S => True) (fun u t => va_P κ.2.1.1 vwCl (wf u) t.heap ∧ va_D κ.2.2.1 (wf u)) κ.2.2.1
theorem xb_PA.blind {κ : xb_k} {av : List Value} {ws : va_W} : FrameBlind (xb_PA κ av ws) := fun a U g mk q => ⟨xb_P.blind a U g mk q.1, q.2⟩
theorem x_enterA {κ : xb_k} {y : MethodName} {cc : ByteArray} {maxL : Nat} {ret : Option FieldType} {rm : Room} {av : List Value} {ws : va_W} {Qc : Array Value → State → Outcome → State → Prop} {mc ms : Nat} {own : String} {lv0 : List (Nat × Value)} (hy : plainName y.cls = true) (hown : y.cls = own) (hn : Nat.ble (lg_sl av).length maxL = true) (hlv : lv_args 0 av = lv0)
    (body : ∀ Γ : xb_X, xb_C κ Γ maxL cc own rm → xb_E κ Γ Qc mc ms ret → (∀ q : Nat, Γ.2.2.2.1.heap.size ≤ q → κ.2.2.1 q) → Γ.2.2.2.2.2.2.2.1.name = y.name → xb_W κ Γ maxL 0 0 0 lv0 [] ws) : Met κ.1 y [Cond.code y cc maxL ret] rm (xb_PA κ av ws) Qc mc ms κ.2.2.1 := by
  refine Met.ofW (cc := cc) (maxL := maxL) (ret := ret) hy rfl ?_
  intro p e s m args below meth c s₁ B hml hv
  obtain ⟨⟨rfl, hP, hD, hR⟩, hA⟩ := hv
  have hown' : s.vm.findClass own = some m.cls := hown ▸ findClass_of_methodNamed B.named
  have hl := lv_entry av (n := maxL) (Nat.le_of_ble_eq_true hn)
  rw [hlv] at hl
  rw [lg_entry_eq]
  exact body (p, e, rm, s, m, av.toArray, below, meth, c, MQ below Qc av.toArray s mc ms κ.2.2.1) ⟨B.exec, B.bytes, hml, hown', hR, B.notSynchronized, rfl⟩ ⟨rfl, B.returns⟩ hA (name_of_methodNamed B.named B.method).1 s.heap [] _ hP hD va_S.rf hl
section
variable {κ : xb_k} {Γ : xb_X} {nL cells slots pc : Nat} {lv : List (Nat × Value)} {st : List Value} {ws : va_W} {cc : ByteArray} {own : String} {rm : Room}
theorem x_widen {k n : Nat} (h1 : cells ≤ k) (h2 : slots ≤ n) (kk : xb_W κ Γ nL k n pc lv st ws) : xb_W κ Γ nL cells slots pc lv st ws := fun H locs ls hP hD hS hl => W.widen h1 h2 (kk H locs ls hP hD hS hl)
theorem x_new {Cn : String} {T : u_T} {N ci idx : Nat} {fs : List Value} (ty : Nat → FieldType) (C : xb_C κ Γ nL cc own rm) (hA : ∀ q : Nat, Γ.2.2.2.1.heap.size ≤ q → κ.2.2.1 q) (hc : vwCl[ci]? = some (Cn, T, N)) (hty : ∀ k, k < N → parseFieldDescriptor (T k).2.2.1 = some (ty k)) (hw : ∀ w ∈ u_ws Cn T N, w ∈ xb_tbl) (hcl : Cond.classLink own idx Cn ∈ xb_tbl) (hin : Cond.instantiable Cn N ∈ xb_tbl) (hni : Cond.initialized Cn ∈ xb_tbl) (hfs : ∀ j, j < N → defaultValue (ty j) = vp_V fs j) (hr : (Nat.ble (cells + 1) rm.cells && Nat.ble (slots + N) rm.slots) = true) (hd : decode cc pc = .ok (.new idx, 3)) (k : ∀ q : Nat, xb_W κ Γ nL (cells + 1) (slots + N) (pc + 3) lv (.ref q :: st) ((q, .inr (ci, fs)) :: ws)) : xb_W κ Γ nL cells slots pc lv st ws := by
  intro H locs ls hP hD hS hl
  rw [Bool.and_eq_true] at hr
  have hN := C.2.2.2.2.1.2.1
  refine va_new (args := Γ.2.2.2.2.2.1) C.1 C.2.1 hN.all hw ty hty C.2.2.2.1 (hN.get hcl) (hN.get hin) (hN.get hni) C.2.2.2.2.1.1 hP hD hS hA hc hfs (by rw [C.2.2.2.2.2.2]; exact Nat.le_of_ble_eq_true hr.1) (by rw [C.2.2.2.2.2.2]; exact Nat.le_of_ble_eq_true hr.2) hd (fun q H1 hP1 hD1 hS1 => ?_)
  exact k q H1 locs ls (rot_P hP1) (rot_D hD1) hS1 hl
theorem x_newI {n : Int32} {N M : Nat} (C : xb_C κ Γ nL cc own rm) (hA : ∀ q : Nat, Γ.2.2.2.1.heap.size ≤ q → κ.2.2.1 q) (hn : n = nI N) (hN : N ≤ M) (hr : (Nat.ble M 100000 && Nat.ble (cells + 1) rm.cells && Nat.ble (slots + M) rm.slots) = true) (hd : decode cc pc = .ok (.newarray .int, 2)) (k : ∀ q : Nat, xb_W κ Γ nL (cells + 1) (slots + M) (pc + 2) lv (.ref q :: st) ((q, .inl (κ.2.1.2.1, N, .inl (fun _ => (0 : Int32)))) :: ws)) : xb_W κ Γ nL cells slots pc lv (.int n :: st) ws := by
  intro H locs ls hP hD hS hl
  simp only [Bool.and_eq_true] at hr
  obtain ⟨⟨h1, h2⟩, h3⟩ := hr
  have h1 := Nat.le_of_ble_eq_true h1
  have h2 := Nat.le_of_ble_eq_true h2
  have h3 := Nat.le_of_ble_eq_true h3
  have hW := C.2.2.2.2.1.2.1
  refine va_newa (atype := .int) (ty := .int) (N' := N) (a0 := (N, .inl (fun _ => (0 : Int32)))) C.1 C.2.1 (hW.get ka_int) rfl C.2.2.2.2.1.1 hP hD hS hA (fun cA => rfl) (by rw [hn]; exact nI_pos (by omega)) (by rw [hn]; exact nI_clamp (by omega)) (by show N * 4 ≤ _; omega) (by rw [C.2.2.2.2.2.2]; exact h2) (by rw [C.2.2.2.2.2.2]; omega) hd (fun q cA H1 hK1 hP1 hD1 hS1 => ?_)
  have e : cA = κ.2.1.2.1 := by
    have a1 : Γ.2.2.2.1.vm.findClass ("[" ++ FieldType.int.toString) = some cA := (hK1.2 3 _ rfl).2
    have a2 : Γ.2.2.2.1.vm.findClass ("[" ++ FieldType.int.toString) = some κ.2.1.2.1 := (C.2.2.2.2.1.1.2 0 _ rfl).2
    exact Option.some.inj (a1.symm.trans a2)
  subst e
  exact W.widen (Nat.le_refl _) (by omega) (k q H1 locs ls (rot_P hP1) (rot_D hD1) hS1 hl)
theorem x_newJ {n : Int32} {N M : Nat} (C : xb_C κ Γ nL cc own rm) (hA : ∀ q : Nat, Γ.2.2.2.1.heap.size ≤ q → κ.2.2.1 q) (hn : n = nI N) (hN : N ≤ M) (hr : (Nat.ble M 100000 && Nat.ble (cells + 1) rm.cells && Nat.ble (slots + M) rm.slots) = true) (hd : decode cc pc = .ok (.newarray .long, 2)) (k : ∀ q : Nat, xb_W κ Γ nL (cells + 1) (slots + M) (pc + 2) lv (.ref q :: st) ((q, .inl (κ.2.1.2.2.1, N, .inr (.inl (fun _ => (0 : Int64))))) :: ws)) : xb_W κ Γ nL cells slots pc lv (.int n :: st) ws := by
  intro H locs ls hP hD hS hl
  simp only [Bool.and_eq_true] at hr
  obtain ⟨⟨h1, h2⟩, h3⟩ := hr
  have h1 := Nat.le_of_ble_eq_true h1
  have h2 := Nat.le_of_ble_eq_true h2
  have h3 := Nat.le_of_ble_eq_true h3
  have hW := C.2.2.2.2.1.2.1
  refine va_newa (atype := .long) (ty := .long) (N' := N) (a0 := (N, .inr (.inl (fun _ => (0 : Int64))))) C.1 C.2.1 (hW.get ka_long) rfl C.2.2.2.2.1.1 hP hD hS hA (fun cA => rfl) (by rw [hn]; exact nI_pos (by omega)) (by rw [hn]; exact nI_clamp (by omega)) (by show N * 8 ≤ _; omega) (by rw [C.2.2.2.2.2.2]; exact h2) (by rw [C.2.2.2.2.2.2]; omega) hd (fun q cA H1 hK1 hP1 hD1 hS1 => ?_)
  have e : cA = κ.2.1.2.2.1 := by
    have a1 : Γ.2.2.2.1.vm.findClass ("[" ++ FieldType.long.toString) = some cA := (hK1.2 3 _ rfl).2
    have a2 : Γ.2.2.2.1.vm.findClass ("[" ++ FieldType.long.toString) = some κ.2.1.2.2.1 := (C.2.2.2.2.1.1.2 1 _ rfl).2
    exact Option.some.inj (a1.symm.trans a2)
  subst e
  exact W.widen (Nat.le_refl _) (by omega) (k q H1 locs ls (rot_P hP1) (rot_D hD1) hS1 hl)
theorem x_newZ {n : Int32} {N M : Nat} (C : xb_C κ Γ nL cc own rm) (hA : ∀ q : Nat, Γ.2.2.2.1.heap.size ≤ q → κ.2.2.1 q) (hn : n = nI N) (hN : N ≤ M) (hr : (Nat.ble M 100000 && Nat.ble (cells + 1) rm.cells && Nat.ble (slots + M) rm.slots) = true) (hd : decode cc pc = .ok (.newarray .boolean, 2)) (k : ∀ q : Nat, xb_W κ Γ nL (cells + 1) (slots + M) (pc + 2) lv (.ref q :: st) ((q, .inl (κ.2.1.2.2.2, N, .inl (fun _ => (0 : Int32)))) :: ws)) : xb_W κ Γ nL cells slots pc lv (.int n :: st) ws := by
  intro H locs ls hP hD hS hl
  simp only [Bool.and_eq_true] at hr
  obtain ⟨⟨h1, h2⟩, h3⟩ := hr
  have h1 := Nat.le_of_ble_eq_true h1
  have h2 := Nat.le_of_ble_eq_true h2
  have h3 := Nat.le_of_ble_eq_true h3
  have hW := C.2.2.2.2.1.2.1
  refine va_newa (atype := .boolean) (ty := .boolean) (N' := N) (a0 := (N, .inl (fun _ => (0 : Int32)))) C.1 C.2.1 (hW.get ka_boolean) rfl C.2.2.2.2.1.1 hP hD hS hA (fun cA => rfl) (by rw [hn]; exact nI_pos (by omega)) (by rw [hn]; exact nI_clamp (by omega)) (by show N * 1 ≤ _; omega) (by rw [C.2.2.2.2.2.2]; exact h2) (by rw [C.2.2.2.2.2.2]; omega) hd (fun q cA H1 hK1 hP1 hD1 hS1 => ?_)
  have e : cA = κ.2.1.2.2.2 := by
    have a1 : Γ.2.2.2.1.vm.findClass ("[" ++ FieldType.boolean.toString) = some cA := (hK1.2 3 _ rfl).2
    have a2 : Γ.2.2.2.1.vm.findClass ("[" ++ FieldType.boolean.toString) = some κ.2.1.2.2.2 := (C.2.2.2.2.1.1.2 2 _ rfl).2
    exact Option.some.inj (a1.symm.trans a2)
  subst e
  exact W.widen (Nat.le_refl _) (by omega) (k q H1 locs ls (rot_P hP1) (rot_D hD1) hS1 hl)
theorem x_objInit {idx a : Nat} (C : xb_C κ Γ nL cc own rm) (hlk : Cond.methodLink own idx Lib.objectInit ∈ xb_tbl) (hr : (Nat.ble 1 rm.frames && Nat.ble ((st.map fun v => v.category).sum + 12) rm.locals) = true) (hd : decode cc pc = .ok (.invokespecial idx, 3)) (k : xb_W κ Γ nL cells slots (pc + 3) lv st ws) : xb_W κ Γ nL cells slots pc lv (.ref a :: st) ws := by
  intro H locs ls hP hD hS hl
  rw [Bool.and_eq_true] at hr
  have hW := C.2.2.2.2.1.2.1
  have h1 := Nat.le_of_ble_eq_true hr.1
  have h2 := Nat.le_of_ble_eq_true hr.2
  exact W.objInit C.1 C.2.1 C.2.2.2.1 (hW.get hlk) (hW.get ki_obj) (hW.get kc_obj) rfl (by rw [C.2.2.1]; exact hl.1) rfl hd (by rw [C.2.2.2.2.2.2]; exact h1) (by rw [C.2.2.2.2.2.2]; show 2 * 0 + _ + 12 ≤ _; omega) (k H locs ls hP hD hS hl)
theorem x_callI {S : Type} {wf : S → va_W} {y : MethodName} {cls : String} {cb : ByteArray} {maxL n idx mc ms : Nat} {rmc : Room} {As st0 : List Value} {b : Nat} (C : xb_C κ Γ nL cc own rm) (hA : ∀ q : Nat, Γ.2.2.2.1.heap.size ≤ q → κ.2.2.1 q) (hM : Met κ.1 y [Cond.code y cb maxL none] rmc (xb_PA κ (.ref b :: As) ws) (xb_QA κ wf) mc ms κ.2.2.1) (hm : xm_I y cls cb maxL none n) (hlk : Cond.methodLink own idx y ∈ xb_tbl) (hi : y.name = "<init>") (hr : (rmc.cells == mc && rmc.slots == ms && Nat.ble (rmc.frames + 1) rm.frames && Nat.ble (8 + (maxL + 11) + rmc.locals) rm.locals) = true) (hn : As.length = n) (hst : st0 = As.reverse ++ .ref b :: st) (hrm : Nat.ble (st.map fun v => v.category).sum 8 = true) (hd : decode cc pc = .ok (.invokespecial idx, 3)) (hf : Nat.ble (cells + mc) rm.cells = true ∧ Nat.ble (slots + ms) rm.slots = true) (k : ∀ u : S, xb_W κ Γ nL (cells + mc) (slots + ms) (pc + 3) lv st (wf u)) : xb_W κ Γ nL cells slots pc lv st0 ws := by
  intro H locs ls hP hD hS hl
  obtain ⟨h1, h2, h3, h4⟩ := x_rm hr
  rw [← C.2.2.2.2.2.2] at h3 h4 hf
  have hN := C.2.2.2.2.1.2.1
  obtain ⟨m1, m3, m4, rfl, m6⟩ := hm
  exact va_callv (va_runI ⟨C.1, C.2.1, C.2.2.1, C.2.2.2.1, hN.all⟩ hM ⟨callB_of n hN.all (x_good m4) rfl h1 h2 (hN.get m3) (hN.get hlk) m6 ⟨h3, h4⟩, hi, hN.get m1⟩ ⟨xb_PA.blind, fun U hU hW => ⟨⟨rfl, by rw [hU]; exact hP, hD, C.2.2.2.2.1.call hS hU hW⟩, fun q hq => hA q (Nat.le_trans hS.1 (by rw [← hU]; exact hq))⟩⟩ rfl hn hl.1 hst (lv_room (Nat.le_of_ble_eq_true hrm)) hd ⟨Nat.le_of_ble_eq_true hf.1, Nat.le_of_ble_eq_true hf.2⟩) hS (fun _ _ h => h) (fun _ h => h) (fun u t H1 locs1 ht hvm hx hB hz hk hS1 => k u H1 locs1 ls (ht ▸ hB.1) hB.2 hS1 hl)
theorem x_callIN {S : Type} {wf : S → va_W} {y : MethodName} {cls host : String} {cb : ByteArray} {maxL n idx mc ms : Nat} {rmc : Room} {As st0 : List Value} {b : Nat} (C : xb_C κ Γ nL cc own rm) (hA : ∀ q : Nat, Γ.2.2.2.1.heap.size ≤ q → κ.2.2.1 q) (hM : Met κ.1 y [Cond.code y cb maxL none] rmc (xb_PA κ (.ref b :: As) ws) (xb_QA κ wf) mc ms κ.2.2.1) (hm : xm_I y cls cb maxL none n) (hlk : Cond.methodLinkNest own idx y host ∈ xb_tbl) (hi : y.name = "<init>") (hr : (rmc.cells == mc && rmc.slots == ms && Nat.ble (rmc.frames + 1) rm.frames && Nat.ble (8 + (maxL + 11) + rmc.locals) rm.locals) = true) (hn : As.length = n) (hst : st0 = As.reverse ++ .ref b :: st) (hrm : Nat.ble (st.map fun v => v.category).sum 8 = true) (hd : decode cc pc = .ok (.invokespecial idx, 3)) (hf : Nat.ble (cells + mc) rm.cells = true ∧ Nat.ble (slots + ms) rm.slots = true) (k : ∀ u : S, xb_W κ Γ nL (cells + mc) (slots + ms) (pc + 3) lv st (wf u)) : xb_W κ Γ nL cells slots pc lv st0 ws := by
  intro H locs ls hP hD hS hl
  obtain ⟨h1, h2, h3, h4⟩ := x_rm hr
  rw [← C.2.2.2.2.2.2] at h3 h4 hf
  have hN := C.2.2.2.2.1.2.1
  obtain ⟨m1, m3, m4, rfl, m6⟩ := hm
  exact va_callv (va_runIN ⟨C.1, C.2.1, C.2.2.1, C.2.2.2.1, hN.all⟩ hM ⟨va_cnB n hN.all (x_good m4) rfl h1 h2 (hN _ hlk) (hN.get m3) m6 ⟨h3, h4⟩, hi, hN.get m1⟩ ⟨xb_PA.blind, fun U hU hW => ⟨⟨rfl, by rw [hU]; exact hP, hD, C.2.2.2.2.1.call hS hU hW⟩, fun q hq => hA q (Nat.le_trans hS.1 (by rw [← hU]; exact hq))⟩⟩ rfl hn hl.1 hst (lv_room (Nat.le_of_ble_eq_true hrm)) hd ⟨Nat.le_of_ble_eq_true hf.1, Nat.le_of_ble_eq_true hf.2⟩) hS (fun _ _ h => h) (fun _ h => h) (fun u t H1 locs1 ht hvm hx hB hz hk hS1 => k u H1 locs1 ls (ht ▸ hB.1) hB.2 hS1 hl)
theorem x_vretA {S : Type} {wf : S → va_W} {mc ms : Nat} (u : S) (C : xb_C κ Γ nL cc own rm) (E : xb_E κ Γ (xb_QA κ wf) mc ms none) (h1 : Nat.ble cells mc = true) (h2 : Nat.ble slots ms = true) (hd : decode cc pc = .ok (.return_, 1)) (hw : ws = wf u) : xb_W κ Γ nL cells slots pc lv [] ws := by
  intro H locs ls hP hD hS hl
  subst hw
  refine W.widen (Nat.le_of_ble_eq_true h1) (Nat.le_of_ble_eq_true h2) ?_
  rw [E.1]
  exact W.vret C.1 C.2.1 E.2 (fun t ht hW => ⟨⟨u, rfl, trivial, by rw [ht]; exact hP, hD⟩, hS.F ht⟩) hS.2.2 hd (hlocks := C.2.2.2.2.2.1)
end
def cl (x : Int32) : Int32 := if x < 1 then 1 else if 48 < x then 48 else x
theorem cl_nn (x : Int32) : 1 ≤ (cl x).toNatClampNeg ∧ (cl x).toNatClampNeg ≤ 48 ∧ cl x = nI (cl x).toNatClampNeg := by
  unfold cl
  split
  · exact ⟨by decide, by decide, by decide⟩
  · split
    · exact ⟨by decide, by decide, by decide⟩
    · rename_i h1 h2
      rw [Int32.lt_iff_toInt_lt] at h1 h2
      have e1 : (1 : Int32).toInt = 1 := by decide
      have e2 : (48 : Int32).toInt = 48 := by decide
      rw [e1] at h1
      rw [e2] at h2
      have e3 : x.toNatClampNeg = x.toInt.toNat := rfl
      refine ⟨by rw [e3]; omega, by rw [e3]; omega, ?_⟩
      apply Int32.toInt_inj.mp
      rw [nI_toInt (by rw [e3]; omega), e3]
      omega

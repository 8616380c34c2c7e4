def R_law : String := "NeighbourBookLaw"
def lw_P (b : Addr) (xs : List Int32) (args : Array Value) (s : State) : Prop := args = #[.ref b] ∧ s.IntsAt b xs ∧ xs.length ≤ 2049 ∧ (Jvm.Cond.and given_1 narrow_1).before args s = true
def lw_Q (_ : Array Value) (s : State) (o : Outcome) (t : State) : Prop := o = .returned (some (.int 1)) ∧ Framed s o t [] 600000 7302249
def lw_Z (below : List Frame) (a : Array Value) (s : State) : State → Prop := fun t => ∃ o, t.status = .running ∧ Ended t below o ∧ lw_Q a s o t
/-- the law's own end, with 1 on the stack, nothing written that was there before, its room as the claim has it -/
theorem lw_ret {p : Program} {l : Launch} {e : Env} {s : State} {m : MethodId} {below : List Frame} {meth : Method} {c : Code} {b : Nat} (hx : p.tables.exec = Jvm.exec) (hb : c.code = code) (hr : meth.sig.returnType = ret) (hlocks : meth.locks = false) {pc : Nat} {H : Heap} {ls : Array Slot} (hdg : decode code pc = .ok (.ireturn, 1)) : W p l e room_1 s m #[Value.ref b] below meth c H [] 600000 7302249 (lw_Z below #[Value.ref b] s) (F0 m pc ls [.int 1]) := by
  intro T hT X
  obtain ⟨fs, hret, hrun, hended, hW, hframe⟩ := X.leave (v := some (.int 1)) (hlocks := hlocks) (fun h => by rw [hr] at h; cases h)
  have hmeth' : T.vm.method? m = some meth := X.method'
  refine ⟨T.setFrames fs, ?_, .returned (some (.int 1)), hrun, hended, rfl, ⟨_, rfl⟩, hW, hframe⟩
  jvm_step X.here [X.here.top, hx, hb, hdg, hmeth', hr, ret, narrow_b1]
  (try refine ⟨rfl, ?_⟩); (try refine ⟨rfl, ?_⟩)
  first | (intro acts; rw [hret _ acts rfl rfl rfl]) | rw [hret _ _ rfl rfl rfl]
  exact Steps.refl _
/-- what holds at the law's entry: the machine, the code, the tables' words (any of lw_tbl by 'hts w (by decide +kernel)'), the script of L ints xs at the cell b, what the Statement gives of the start (any of its parts by flat_of_before) -/
def lw_At (p : Program) (s : State) (m : MethodId) (meth : Method) (c : Code) (b L : Nat) (xs : Nat → Int32) : Prop :=
  p.tables.exec = Jvm.exec ∧ c.code = code ∧ meth.sig.returnType = ret ∧ c.maxLocals = 4 ∧ s.vm.findClass R_law = some m.cls ∧ (∀ w ∈ lw_tbl, w.before #[Value.ref b] s = true) ∧ va_X b L xs s s.heap ∧ b < s.heap.size ∧ meth.locks = false ∧ (Jvm.Cond.and given_1 narrow_1).before #[Value.ref b] s = true
def X0 : XS := ((fun _ => (0 : Int64)), (fun _ => (0 : Int64)), (upd (upd (upd (upd (upd (upd (upd (upd (fun _ => (0 : Int32)) (0 : Int32).toNatClampNeg (1 : Int32)) (1 : Int32).toNatClampNeg (1 : Int32)) (2 : Int32).toNatClampNeg (1 : Int32)) (3 : Int32).toNatClampNeg (1 : Int32)) (4 : Int32).toNatClampNeg (1 : Int32)) (5 : Int32).toNatClampNeg (1 : Int32)) (6 : Int32).toNatClampNeg (1 : Int32)) (7 : Int32).toNatClampNeg (1 : Int32)), (upd (upd (upd (fun _ => (0 : Int32)) (0 : Int32).toNatClampNeg (3 : Int32)) (1 : Int32).toNatClampNeg (2 : Int32)) (2 : Int32).toNatClampNeg (4 : Int32)), (0 : Int32), (fun _ => (0 : Int32)), (fun _ => (0 : Int32)), (0 : Int32), (1 : Int32), (fun _ => (0 : Int64)), (fun _ => (0 : Int64)), (0 : Int32), (fun _ => (0 : Int32)), (fun _ => (0 : Int32)), (fun _ => (0 : Int32)), (fun _ => (0 : Int32)), (fun _ => (0 : Int32)), (fun _ => (0 : Int32)), (fun _ => (0 : Int32)), (0 : Int32), (0 : Int32), (fun _ => (0 : Int32)), (fun _ => (0 : Int32)), (fun _ => (0 : Int32)), (fun _ => (0 : Int64)))
def M0 (n : Int32) : MS := ((0 : Int32), n, (0 : Int32), (0 : Int32), (3 : Int32), (2 : Int32), (4 : Int32), (0 : Int32), (0 : Int32), (0 : Int32), (0 : Int32), (0 : Int32), (fun _ => (0 : Int32)), (fun _ => (0 : Int32)), (fun _ => (0 : Int32)), (upd (upd (upd (upd (upd (upd (upd (upd (fun _ => (0 : Int32)) (0 : Int32).toNatClampNeg (1 : Int32)) (1 : Int32).toNatClampNeg (1 : Int32)) (2 : Int32).toNatClampNeg (1 : Int32)) (3 : Int32).toNatClampNeg (1 : Int32)) (4 : Int32).toNatClampNeg (1 : Int32)) (5 : Int32).toNatClampNeg (1 : Int32)) (6 : Int32).toNatClampNeg (1 : Int32)) (7 : Int32).toNatClampNeg (1 : Int32)), (fun _ => (0 : Int32)), (fun _ => (0 : Int32)), (fun _ => (0 : Int32)), (fun _ => (0 : Int32)), (fun _ => (0 : Int32)), (fun _ => (0 : Int32)), (fun _ => (0 : Int32)), (fun _ => (0 : Int32)), (fun _ => (0 : Int32)), (fun _ => (0 : Int32)), (fun _ => (0 : Int32)), (fun _ => (0 : Int32)), (fun _ => (0 : Int32)), (fun _ => (0 : Int32)), (fun _ => (0 : Int32)), (fun _ => (0 : Int32)), (fun _ => (0 : Int32)), (fun _ => (0 : Int32)), (fun _ => (0 : Int32)))
theorem fm_map {α β : Type} {f : α → Option β} : ∀ {is : List α} {l : List β}, is.map f = l.map some → is.filterMap f = l
  | [], [], _ => rfl
  | [], _ :: _, h => by cases h
  | _ :: _, [], h => by cases h
  | i :: is, b :: l, h => by
    rw [List.map_cons, List.map_cons] at h
    injection h with h1 h2
    rw [List.filterMap_cons, h1, fm_map h2]
theorem x_perm {κ : xb_k} {Γ : xb_X} {nL cells slots pc : Nat} {lv : List (Nat × Value)} {st : List Value} {a b b2 : va_W} (is : List Nat) (hn : va_nd is = true) (hs : is.map (fun i => b[i]?) = b2.map some) (k : xb_W κ Γ nL cells slots pc lv st (a ++ b2)) : xb_W κ Γ nL cells slots pc lv st (a ++ b) := by
  intro H locs ls hP hD hS hl
  obtain ⟨p1, p2⟩ := sp_P hP
  obtain ⟨d1, d2, dx⟩ := sp_D hD
  have hin : ∀ (j : Nat) (q : Nat × va_E), b2[j]? = some q → ∃ i, b[i]? = some q := fun j q hj => by
    have h1 : (is.map (fun i => b[i]?))[j]? = some (some q) := by rw [hs, List.getElem?_map, hj]; rfl
    rw [List.getElem?_map] at h1
    cases hi : is[j]? with
    | none => rw [hi] at h1; cases h1
    | some i => rw [hi] at h1; exact ⟨i, Option.some.inj h1⟩
  exact k H locs ls (p1.app (p2.sub is (fm_map hs))) (d1.app (d2.sub is hn hs) (fun i j p q hi hj e => by obtain ⟨j2, hj2⟩ := hin j q hj; exact dx i j2 p q hi hj2 e)) hS hl
theorem st_arr {s : State} {args : Array Value} {ty : FieldType} (hc : ∀ C : String, ty ≠ .object C) (h : (Cond.arrayClass ty).before args s = true) : ∃ cA : ClassId, ArrOfT s cA ty ∧ va_RA s cA ty := by
  obtain ⟨cA, kA, comp, h1, h2, h3⟩ := Cond.arrayClass_spec h
  refine ⟨cA, fun n z => ⟨fun k h => (by cases h), kA, h2, comp, h3⟩, ?_⟩
  cases ty <;> first | exact h1 | exact absurd rfl (hc _)
set_option maxHeartbeats 4000000 in
set_option maxRecDepth 100000 in
theorem start_open {fu : Nat} {Rel : Nat → XS → MS → Prop} (HR : OK_all fu Rel) (H0 : ∀ nn : Nat, 1 ≤ nn → nn ≤ 48 → Rel nn X0 (M0 (nI nn))) {p : Program} {e : Env} {s : State} {m : MethodId} {below : List Frame} {meth : Method} {c : Code} (l : Launch) {b L : Nat} {xs : Nat → Int32} (hL : L ≤ 2049) (C0 : lw_At p s m meth c b L xs) : W p l e room_1 s m #[Value.ref b] below meth c s.heap [] 0 0 (lw_Z below #[Value.ref b] s) (entryFrame m ([Value.ref b] : List Value).toArray 4) := by
  obtain ⟨hx, hb, hr, hml, hown, hts, hX, hbl, hlocks, hgv⟩ := id C0
  obtain ⟨c0, iS0, hKn0⟩ := u_known (C := RX0) (T := TX0) (N := 3) (n := 3) hts (fun w hw => (List.mem_filter.mp (kw_X0 w hw)).1) (hts (.instantiable RX0 3) (List.mem_filter.mp kv_X0).1)
  obtain ⟨c1, iS1, hKn1⟩ := u_known (C := RX1) (T := TX1) (N := 9) (n := 9) hts (fun w hw => (List.mem_filter.mp (kw_X1 w hw)).1) (hts (.instantiable RX1 9) (List.mem_filter.mp kv_X1).1)
  obtain ⟨c2, iS2, hKn2⟩ := u_known (C := RX2) (T := TX2) (N := 4) (n := 4) hts (fun w hw => (List.mem_filter.mp (kw_X2 w hw)).1) (hts (.instantiable RX2 4) (List.mem_filter.mp kv_X2).1)
  obtain ⟨c3, iS3, hKn3⟩ := u_known (C := RX3) (T := TX3) (N := 2) (n := 2) hts (fun w hw => (List.mem_filter.mp (kw_X3 w hw)).1) (hts (.instantiable RX3 2) (List.mem_filter.mp kv_X3).1)
  obtain ⟨c4, iS4, hKn4⟩ := u_known (C := RX4) (T := TX4) (N := 2) (n := 2) hts (fun w hw => (List.mem_filter.mp (kw_X4 w hw)).1) (hts (.instantiable RX4 2) (List.mem_filter.mp kv_X4).1)
  obtain ⟨c5, iS5, hKn5⟩ := u_known (C := RX5) (T := TX5) (N := 2) (n := 2) hts (fun w hw => (List.mem_filter.mp (kw_X5 w hw)).1) (hts (.instantiable RX5 2) (List.mem_filter.mp kv_X5).1)
  obtain ⟨c6, iS6, hKn6⟩ := u_known (C := RX6) (T := TX6) (N := 3) (n := 3) hts (fun w hw => (List.mem_filter.mp (kw_X6 w hw)).1) (hts (.instantiable RX6 3) (List.mem_filter.mp kv_X6).1)
  obtain ⟨c7, iS7, hKn7⟩ := u_known (C := RX7) (T := TX7) (N := 1) (n := 1) hts (fun w hw => (List.mem_filter.mp (kw_X7 w hw)).1) (hts (.instantiable RX7 1) (List.mem_filter.mp kv_X7).1)
  obtain ⟨c8, iS8, hKn8⟩ := u_known (C := RX8) (T := TX8) (N := 7) (n := 7) hts (fun w hw => (List.mem_filter.mp (kw_X8 w hw)).1) (hts (.instantiable RX8 7) (List.mem_filter.mp kv_X8).1)
  obtain ⟨c9, iS9, hKn9⟩ := u_known (C := RX9) (T := TX9) (N := 35) (n := 35) hts (fun w hw => (List.mem_filter.mp (kw_X9 w hw)).1) (hts (.instantiable RX9 35) (List.mem_filter.mp kv_X9).1)
  obtain ⟨dC, dI, hKc⟩ : ∃ (dC : Nat → ClassId) (dI : Nat → Nat → Nat), ∀ (k : Nat) (q : vw_C), vwCl[k]? = some q → u_Kn s q.1 q.2.1 q.2.2 (dC k) (dI k) := by
    refine ⟨fun k => if k = 0 then c0 else if k = 1 then c1 else if k = 2 then c2 else if k = 3 then c3 else if k = 4 then c4 else if k = 5 then c5 else if k = 6 then c6 else if k = 7 then c7 else if k = 8 then c8 else c9, fun k => if k = 0 then iS0 else if k = 1 then iS1 else if k = 2 then iS2 else if k = 3 then iS3 else if k = 4 then iS4 else if k = 5 then iS5 else if k = 6 then iS6 else if k = 7 then iS7 else if k = 8 then iS8 else iS9, ?_⟩
    intro k q hq
    match k, hq with
    | 0, hq => cases hq; exact hKn0
    | 1, hq => cases hq; exact hKn1
    | 2, hq => cases hq; exact hKn2
    | 3, hq => cases hq; exact hKn3
    | 4, hq => cases hq; exact hKn4
    | 5, hq => cases hq; exact hKn5
    | 6, hq => cases hq; exact hKn6
    | 7, hq => cases hq; exact hKn7
    | 8, hq => cases hq; exact hKn8
    | 9, hq => cases hq; exact hKn9
    | k + 10, hq => simp [vwCl] at hq
  obtain ⟨cI, aI, rI⟩ := st_arr (ty := .int) (by intro C h; cases h) (hts _ (List.mem_filter.mp ka_int).1)
  obtain ⟨cJ, aJ, rJ⟩ := st_arr (ty := .long) (by intro C h; cases h) (hts _ (List.mem_filter.mp ka_long).1)
  obtain ⟨cZ, aZ, rZ⟩ := st_arr (ty := .boolean) (by intro C h; cases h) (hts _ (List.mem_filter.mp ka_boolean).1)
  have hA0 : ∀ a : Nat, a < s.heap.size → ¬ (fun q : Nat => s.heap.size ≤ q) a := fun a h => Nat.not_le.mpr h
  have hs := flat_of_before _ hgv
  obtain ⟨aL, eL, tL⟩ := va_Tof (tm := .static RX5 "LEAST" "[I") (ty := .int) (N := 3) (f := xb_fL) (A := fun q : Nat => s.heap.size ≤ q) (by decide) (hs (Cond.arrayOf (.static RX5 "LEAST" "[I") .int) (by decide +kernel)) (va_eqt (hs (Cond.eq (.length (.static RX5 "LEAST" "[I")) (.int 3)) (by decide +kernel))) (fun j hj => by
    rcases (show j = 0 ∨ j = 1 ∨ j = 2 by omega) with rfl | rfl | rfl
    · exact va_eqt (hs (Cond.eq (.elem (.static RX5 "LEAST" "[I") (.int 0)) (.int 0)) (by decide +kernel))
    · exact va_eqt (hs (Cond.eq (.elem (.static RX5 "LEAST" "[I") (.int 1)) (.int 0)) (by decide +kernel))
    · exact va_eqt (hs (Cond.eq (.elem (.static RX5 "LEAST" "[I") (.int 2)) (.int 1)) (by decide +kernel))) hA0
  obtain ⟨aM, eM, tM⟩ := va_Tof (tm := .static RX5 "MOST" "[I") (ty := .int) (N := 3) (f := xb_fM) (A := fun q : Nat => s.heap.size ≤ q) (by decide) (hs (Cond.arrayOf (.static RX5 "MOST" "[I") .int) (by decide +kernel)) (va_eqt (hs (Cond.eq (.length (.static RX5 "MOST" "[I")) (.int 3)) (by decide +kernel))) (fun j hj => by
    rcases (show j = 0 ∨ j = 1 ∨ j = 2 by omega) with rfl | rfl | rfl
    · exact va_eqt (hs (Cond.eq (.elem (.static RX5 "MOST" "[I") (.int 0)) (.int 7)) (by decide +kernel))
    · exact va_eqt (hs (Cond.eq (.elem (.static RX5 "MOST" "[I") (.int 1)) (.int 5)) (by decide +kernel))
    · exact va_eqt (hs (Cond.eq (.elem (.static RX5 "MOST" "[I") (.int 2)) (.int 9)) (by decide +kernel))) hA0
  have zL := va_Zof (hts _ kz_LEAST) (hts (.initialized RX5) (List.mem_filter.mp kn_X5).1) eL hA0
  have zM := va_Zof (hts _ kz_MOST) (hts (.initialized RX5) (List.mem_filter.mp kn_X5).1) eM hA0
  have hK : va_K (dC, dI) vwCl (xb_t ((dC, dI), cI, cJ, cZ)) s := ⟨hKc, fun k q hq => by
    match k, hq with
    | 0, hq => cases hq; exact ⟨aI, rI⟩
    | 1, hq => cases hq; exact ⟨aJ, rJ⟩
    | 2, hq => cases hq; exact ⟨aZ, rZ⟩
    | k + 3, hq => simp at hq⟩
  have hbA : ¬ (fun q : Nat => s.heap.size ≤ q) b := Nat.not_le.mpr hbl
  have hl := lv_entry ([.ref b]) (n := 4) (Nat.le_of_ble_eq_true rfl)
  rw [lg_entry_eq]
  have hP : va_P (dC, dI) vwCl [] s.heap := fun k q h => by simp at h
  have hD : va_D (fun q : Nat => s.heap.size ≤ q) [] := ⟨fun i j p q h => by simp at h, fun k q h => by simp at h⟩
  obtain ⟨hn1, hn, hnn⟩ := cl_nn (sc0 L xs)
  generalize (cl (sc0 L xs)).toNatClampNeg = nn at hn1 hn hnn
  let κ : xb_k := (l, ((dC, dI), cI, cJ, cZ), (fun q : Nat => s.heap.size ≤ q), aL, aM)
  let Γ : xb_X := (p, e, room_1, s, m, #[Value.ref b], below, meth, c, lw_Z below #[Value.ref b] s)
  have C : xb_C κ Γ 4 cL_law RL room_1 := ⟨hx, hb, hml, hown, ⟨hK, xb_N.of hts, zL, tL, zM, tM⟩, hlocks, rfl⟩
  have hA : ∀ q : Nat, Γ.2.2.2.1.heap.size ≤ q → κ.2.2.1 q := fun _ h => h
  suffices G : xb_W κ Γ 4 0 0 0 [(0, .ref b)] [] [] from G s.heap [] _ hP hD va_S.rf hl
  refine x_new (ci := 8) (fs := [.null, .null, .null, .null, .null, .null, .null]) tyX8 C hA rfl tyX8_ok kw_X8 cl_L_7 kv_X8 kn_X8 (fun j hj => by rcases (show j = 0 ∨ j = 1 ∨ j = 2 ∨ j = 3 ∨ j = 4 ∨ j = 5 ∨ j = 6 by omega) with rfl | rfl | rfl | rfl | rfl | rfl | rfl <;> rfl) rfl dL_law_0 (fun hx0 => ?_)
  refine x_dup C dL_law_3 rfl ?_
  refine x_aload_n C dL_law_4 0 rfl ?_
  refine x_iconst (v := 0) C dL_law_5 (by decide) ?_
  refine x_cell hL C hX hbl hbA ml_L_9 rfl rfl dL_law_6 ⟨rfl, rfl⟩ ?_
  refine x_callI (st := [.ref hx0]) C hA (k_X8 (ws := []) hn hnn) xm_X8_init ml_L_15 rfl rfl rfl rfl rfl dL_law_9 ⟨rfl, rfl⟩ (fun u => ?_)
  refine x_perm (a := []) (b2 := xwS κ (fun i => [hx0, u.1, u.2.1, u.2.2.1, u.2.2.2.1, u.2.2.2.2.1, u.2.2.2.2.2.1, u.2.2.2.2.2.2.1, u.2.2.2.2.2.2.2.1, u.2.2.2.2.2.2.2.2.1, u.2.2.2.2.2.2.2.2.2.1, u.2.2.2.2.2.2.2.2.2.2.2.1, u.2.2.2.2.2.2.2.2.2.2.2.2.1, u.2.2.2.2.2.2.2.2.2.2.2.2.2.1, u.2.2.2.2.2.2.2.2.2.2.2.2.2.2.1, u.2.2.2.2.2.2.2.2.2.2.2.2.2.2.2.1, u.2.2.2.2.2.2.2.2.2.2.2.2.2.2.2.2.1, u.2.2.2.2.2.2.2.2.2.2.2.2.2.2.2.2.2.1, u.2.2.2.2.2.2.2.2.2.2.2.2.2.2.2.2.2.2.1, u.2.2.2.2.2.2.2.2.2.2.2.2.2.2.2.2.2.2.2.1, u.2.2.2.2.2.2.2.2.2.2.2.2.2.2.2.2.2.2.2.2.1, u.2.2.2.2.2.2.2.2.2.2.1, u.2.2.2.2.2.2.2.2.2.2.2.2.2.2.2.2.2.2.2.2.2.1, u.2.2.2.2.2.2.2.2.2.2.2.2.2.2.2.2.2.2.2.2.2.2.1, u.2.2.2.2.2.2.2.2.2.2.2.2.2.2.2.2.2.2.2.2.2.2.2.1, u.2.2.2.2.2.2.2.2.2.2.2.2.2.2.2.2.2.2.2.2.2.2.2.2.1, u.2.2.2.2.2.2.2.2.2.2.2.2.2.2.2.2.2.2.2.2.2.2.2.2.2.1, u.2.2.2.2.2.2.2.2.2.2.2.2.2.2.2.2.2.2.2.2.2.2.2.2.2.2.1, u.2.2.2.2.2.2.2.2.2.2.2.2.2.2.2.2.2.2.2.2.2.2.2.2.2.2.2].getD i 0) nn X0) [28, 27, 26, 25, 24, 23, 22, 21, 20, 19, 18, 16, 15, 14, 13, 12, 11, 10, 9, 8, 7, 17, 6, 5, 4, 3, 2, 1, 0] (by decide) rfl ?_
  generalize hqx : (fun i => [hx0, u.1, u.2.1, u.2.2.1, u.2.2.2.1, u.2.2.2.2.1, u.2.2.2.2.2.1, u.2.2.2.2.2.2.1, u.2.2.2.2.2.2.2.1, u.2.2.2.2.2.2.2.2.1, u.2.2.2.2.2.2.2.2.2.1, u.2.2.2.2.2.2.2.2.2.2.2.1, u.2.2.2.2.2.2.2.2.2.2.2.2.1, u.2.2.2.2.2.2.2.2.2.2.2.2.2.1, u.2.2.2.2.2.2.2.2.2.2.2.2.2.2.1, u.2.2.2.2.2.2.2.2.2.2.2.2.2.2.2.1, u.2.2.2.2.2.2.2.2.2.2.2.2.2.2.2.2.1, u.2.2.2.2.2.2.2.2.2.2.2.2.2.2.2.2.2.1, u.2.2.2.2.2.2.2.2.2.2.2.2.2.2.2.2.2.2.1, u.2.2.2.2.2.2.2.2.2.2.2.2.2.2.2.2.2.2.2.1, u.2.2.2.2.2.2.2.2.2.2.2.2.2.2.2.2.2.2.2.2.1, u.2.2.2.2.2.2.2.2.2.2.1, u.2.2.2.2.2.2.2.2.2.2.2.2.2.2.2.2.2.2.2.2.2.1, u.2.2.2.2.2.2.2.2.2.2.2.2.2.2.2.2.2.2.2.2.2.2.1, u.2.2.2.2.2.2.2.2.2.2.2.2.2.2.2.2.2.2.2.2.2.2.2.1, u.2.2.2.2.2.2.2.2.2.2.2.2.2.2.2.2.2.2.2.2.2.2.2.2.1, u.2.2.2.2.2.2.2.2.2.2.2.2.2.2.2.2.2.2.2.2.2.2.2.2.2.1, u.2.2.2.2.2.2.2.2.2.2.2.2.2.2.2.2.2.2.2.2.2.2.2.2.2.2.1, u.2.2.2.2.2.2.2.2.2.2.2.2.2.2.2.2.2.2.2.2.2.2.2.2.2.2.2].getD i 0) = q
  have hq0 : hx0 = q 0 := by rw [← hqx]; rfl
  rw [hq0]
  refine x_widen (k := 100) (n := 20000) (by decide) (by decide) ?_
  refine x_astore_n (lv2 := [(1, .ref (q 0)), (0, .ref b)]) C dL_law_12 rfl (by decide) rfl ?_
  refine x_new (ci := 9) (fs := [.int 0, .int 0, .null, .null, .null, .int 0, .int 0, .null, .int 0, .int 0, .int 0, .null, .null, .int 0, .null, .null, .int 0, .null, .int 0, .null, .null, .null, .null, .null, .null, .int 0, .int 0, .null, .null, .null, .null, .null, .null, .null, .null]) tyX9 C hA rfl tyX9_ok kw_X9 cl_L_18 kv_X9 kn_X9 (fun j hj => by rcases (show j = 0 ∨ j = 1 ∨ j = 2 ∨ j = 3 ∨ j = 4 ∨ j = 5 ∨ j = 6 ∨ j = 7 ∨ j = 8 ∨ j = 9 ∨ j = 10 ∨ j = 11 ∨ j = 12 ∨ j = 13 ∨ j = 14 ∨ j = 15 ∨ j = 16 ∨ j = 17 ∨ j = 18 ∨ j = 19 ∨ j = 20 ∨ j = 21 ∨ j = 22 ∨ j = 23 ∨ j = 24 ∨ j = 25 ∨ j = 26 ∨ j = 27 ∨ j = 28 ∨ j = 29 ∨ j = 30 ∨ j = 31 ∨ j = 32 ∨ j = 33 ∨ j = 34 by omega) with rfl | rfl | rfl | rfl | rfl | rfl | rfl | rfl | rfl | rfl | rfl | rfl | rfl | rfl | rfl | rfl | rfl | rfl | rfl | rfl | rfl | rfl | rfl | rfl | rfl | rfl | rfl | rfl | rfl | rfl | rfl | rfl | rfl | rfl | rfl <;> rfl) rfl dL_law_13 (fun hm0 => ?_)
  refine x_dup C dL_law_16 rfl ?_
  refine x_aload_n C dL_law_17 1 rfl ?_
  refine x_iconst (v := 0) C dL_law_18 (by decide) ?_
  refine x_cell hL C hX hbl hbA ml_L_9 rfl rfl dL_law_19 ⟨rfl, rfl⟩ ?_
  refine x_callI (st := [.ref hm0]) C hA (k_X9 (ws := xwS κ q nn X0)) xm_X9_init ml_L_20 rfl rfl rfl rfl rfl dL_law_22 ⟨rfl, rfl⟩ (fun w => ?_)
  rw [hnn]
  refine x_swap (a := [(w.2.2.2.2.2.2.2.2.2.2.2.2.2.2.2.2.2.2.2.2.2.2, .inl (κ.2.1.2.1, 48, .inl (fun _ => (0 : Int32)))), (w.2.2.2.2.2.2.2.2.2.2.2.2.2.2.2.2.2.2.2.2.2.1, .inl (κ.2.1.2.1, 48, .inl (fun _ => (0 : Int32)))), (w.2.2.2.2.2.2.2.2.2.2.2.2.2.2.2.2.2.2.2.2.1, .inl (κ.2.1.2.2.2, 48, .inl (fun _ => (0 : Int32)))), (w.2.2.2.2.2.2.2.2.2.2.2.2.2.2.2.2.2.2.2.1, .inl (κ.2.1.2.1, 48, .inl (fun _ => (0 : Int32)))), (w.2.2.2.2.2.2.2.2.2.2.2.2.2.2.2.2.2.2.1, .inl (κ.2.1.2.1, 336, .inl (fun _ => (0 : Int32)))), (w.2.2.2.2.2.2.2.2.2.2.2.2.2.2.2.2.2.1, .inl (κ.2.1.2.1, 48, .inl (fun _ => (0 : Int32)))), (w.2.2.2.2.2.2.2.2.2.2.2.2.2.2.2.2.1, .inl (κ.2.1.2.1, 48, .inl (fun _ => (0 : Int32)))), (w.2.2.2.2.2.2.2.2.2.2.2.2.2.2.2.1, .inl (κ.2.1.2.1, 48, .inl (fun _ => (0 : Int32)))), (w.2.2.2.2.2.2.2.2.2.2.2.2.2.2.1, .inl (κ.2.1.2.1, 49, .inl (fun _ => (0 : Int32)))), (w.2.2.2.2.2.2.2.2.2.2.2.2.2.1, .inl (κ.2.1.2.1, 48, .inl (fun _ => (0 : Int32)))), (w.2.2.2.2.2.2.2.2.2.2.2.2.1, .inl (κ.2.1.2.1, 48, .inl (fun _ => (0 : Int32)))), (w.2.2.2.2.2.2.2.2.2.2.2.1, .inl (κ.2.1.2.1, 48, .inl (fun _ => (0 : Int32)))), (w.2.2.2.2.2.2.2.2.2.2.1, .inl (κ.2.1.2.1, 50, .inl (fun _ => (0 : Int32)))), (w.2.2.2.2.2.2.2.2.2.1, .inl (κ.2.1.2.1, 48, .inl (fun _ => (0 : Int32)))), (w.2.2.2.2.2.2.2.2.1, .inl (κ.2.1.2.1, 48, .inl (fun _ => (0 : Int32)))), (w.2.2.2.2.2.2.2.1, .inl (κ.2.1.2.1, 400, .inl (fun _ => (0 : Int32)))), (w.2.2.2.2.2.2.1, .inl (κ.2.1.2.1, 400, .inl (fun _ => (0 : Int32)))), (w.2.2.2.2.2.1, .inl (κ.2.1.2.1, 16384, .inl (fun _ => (0 : Int32)))), (w.2.2.2.2.1, .inl (κ.2.1.2.1, 16384, .inl (fun _ => (0 : Int32)))), (w.2.2.2.1, .inl (κ.2.1.2.1, 8, .inl (upd (upd (upd (upd (upd (upd (upd (upd (fun _ => (0 : Int32)) (0 : Int32).toNatClampNeg (1 : Int32)) (1 : Int32).toNatClampNeg (1 : Int32)) (2 : Int32).toNatClampNeg (1 : Int32)) (3 : Int32).toNatClampNeg (1 : Int32)) (4 : Int32).toNatClampNeg (1 : Int32)) (5 : Int32).toNatClampNeg (1 : Int32)) (6 : Int32).toNatClampNeg (1 : Int32)) (7 : Int32).toNatClampNeg (1 : Int32)))), (w.2.2.1, .inl (κ.2.1.2.2.2, 2304, .inl (fun _ => (0 : Int32)))), (w.2.1, .inl (κ.2.1.2.2.2, 2304, .inl (fun _ => (0 : Int32)))), (w.1, .inl (κ.2.1.2.2.2, 2304, .inl (fun _ => (0 : Int32)))), (hm0, .inr (9, [.int (0 : Int32), .int (nI nn), .ref w.1, .ref w.2.1, .ref w.2.2.1, .int (0 : Int32), .int (0 : Int32), .ref w.2.2.2.1, .int (3 : Int32), .int (2 : Int32), .int (4 : Int32), .ref w.2.2.2.2.1, .ref w.2.2.2.2.2.1, .int (0 : Int32), .ref w.2.2.2.2.2.2.1, .ref w.2.2.2.2.2.2.2.1, .int (0 : Int32), .ref w.2.2.2.2.2.2.2.2.1, .int (0 : Int32), .ref w.2.2.2.2.2.2.2.2.2.1, .ref w.2.2.2.2.2.2.2.2.2.2.1, .ref w.2.2.2.2.2.2.2.2.2.2.2.1, .ref w.2.2.2.2.2.2.2.2.2.2.2.2.1, .ref w.2.2.2.2.2.2.2.2.2.2.2.2.2.1, .ref w.2.2.2.2.2.2.2.2.2.2.2.2.2.2.1, .int (0 : Int32), .int (0 : Int32), .ref w.2.2.2.2.2.2.2.2.2.2.2.2.2.2.2.1, .ref w.2.2.2.2.2.2.2.2.2.2.2.2.2.2.2.2.1, .ref w.2.2.2.2.2.2.2.2.2.2.2.2.2.2.2.2.2.1, .ref w.2.2.2.2.2.2.2.2.2.2.2.2.2.2.2.2.2.2.1, .ref w.2.2.2.2.2.2.2.2.2.2.2.2.2.2.2.2.2.2.2.1, .ref w.2.2.2.2.2.2.2.2.2.2.2.2.2.2.2.2.2.2.2.2.1, .ref w.2.2.2.2.2.2.2.2.2.2.2.2.2.2.2.2.2.2.2.2.2.1, .ref w.2.2.2.2.2.2.2.2.2.2.2.2.2.2.2.2.2.2.2.2.2.2]))]) (b := xwS κ q nn X0) ?_
  refine x_perm (b2 := mwS κ (fun i => [hm0, w.1, w.2.1, w.2.2.1, w.2.2.2.1, w.2.2.2.2.1, w.2.2.2.2.2.1, w.2.2.2.2.2.2.1, w.2.2.2.2.2.2.2.1, w.2.2.2.2.2.2.2.2.1, w.2.2.2.2.2.2.2.2.2.1, w.2.2.2.2.2.2.2.2.2.2.1, w.2.2.2.2.2.2.2.2.2.2.2.1, w.2.2.2.2.2.2.2.2.2.2.2.2.1, w.2.2.2.2.2.2.2.2.2.2.2.2.2.1, w.2.2.2.2.2.2.2.2.2.2.2.2.2.2.1, w.2.2.2.2.2.2.2.2.2.2.2.2.2.2.2.1, w.2.2.2.2.2.2.2.2.2.2.2.2.2.2.2.2.1, w.2.2.2.2.2.2.2.2.2.2.2.2.2.2.2.2.2.1, w.2.2.2.2.2.2.2.2.2.2.2.2.2.2.2.2.2.2.1, w.2.2.2.2.2.2.2.2.2.2.2.2.2.2.2.2.2.2.2.1, w.2.2.2.2.2.2.2.2.2.2.2.2.2.2.2.2.2.2.2.2.1, w.2.2.2.2.2.2.2.2.2.2.2.2.2.2.2.2.2.2.2.2.2.1, w.2.2.2.2.2.2.2.2.2.2.2.2.2.2.2.2.2.2.2.2.2.2].getD i 0) (M0 (nI nn))) [23, 22, 21, 20, 19, 18, 17, 16, 15, 14, 13, 12, 11, 10, 9, 8, 7, 6, 5, 4, 3, 2, 1, 0] (by decide) rfl ?_
  generalize hqm : (fun i => [hm0, w.1, w.2.1, w.2.2.1, w.2.2.2.1, w.2.2.2.2.1, w.2.2.2.2.2.1, w.2.2.2.2.2.2.1, w.2.2.2.2.2.2.2.1, w.2.2.2.2.2.2.2.2.1, w.2.2.2.2.2.2.2.2.2.1, w.2.2.2.2.2.2.2.2.2.2.1, w.2.2.2.2.2.2.2.2.2.2.2.1, w.2.2.2.2.2.2.2.2.2.2.2.2.1, w.2.2.2.2.2.2.2.2.2.2.2.2.2.1, w.2.2.2.2.2.2.2.2.2.2.2.2.2.2.1, w.2.2.2.2.2.2.2.2.2.2.2.2.2.2.2.1, w.2.2.2.2.2.2.2.2.2.2.2.2.2.2.2.2.1, w.2.2.2.2.2.2.2.2.2.2.2.2.2.2.2.2.2.1, w.2.2.2.2.2.2.2.2.2.2.2.2.2.2.2.2.2.2.1, w.2.2.2.2.2.2.2.2.2.2.2.2.2.2.2.2.2.2.2.1, w.2.2.2.2.2.2.2.2.2.2.2.2.2.2.2.2.2.2.2.2.1, w.2.2.2.2.2.2.2.2.2.2.2.2.2.2.2.2.2.2.2.2.2.1, w.2.2.2.2.2.2.2.2.2.2.2.2.2.2.2.2.2.2.2.2.2.2].getD i 0) = q2
  have hm00 : hm0 = q2 0 := by rw [← hqm]; rfl
  rw [hm00]
  refine x_widen (k := 600000) (n := 7302249) (by decide) (by decide) ?_
  refine x_astore_n (lv2 := [(2, .ref (q2 0)), (1, .ref (q 0)), (0, .ref b)]) C dL_law_25 rfl (by decide) rfl ?_
  refine x_iconst (v := 1) C dL_law_26 (by decide) ?_
  refine x_istore_n (lv2 := [(3, .int 1), (2, .ref (q2 0)), (1, .ref (q 0)), (0, .ref b)]) C dL_law_27 rfl (by decide) rfl ?_
  refine x_sub [3, 2, 1, 0] rfl ?_
  refine law_loop (fu := fu) (Rel := Rel) C hX hbl hbA hL ⟨rfl, rfl⟩ HR (fun lv X M => ?_) 2100 1 X0 (M0 (nI nn)) (H0 nn hn1 hn) (by decide) (by omega)
  refine x_iconst (v := 1) C dL_law_929 (by decide) ?_
  intro H locs ls hP hD hS hl
  exact va_forget (fun q hq => hS.2.2 q hq) (lw_ret hx hb hr hlocks dL_law_930)

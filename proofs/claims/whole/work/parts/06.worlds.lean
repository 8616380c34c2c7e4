def xw (κ : xb_k) (q : Nat → Nat) (nn : Nat) (xro : (Nat → Int64)) (xrn : (Nat → Int64)) (xfo : (Nat → Int32)) (xva : (Nat → Int32)) (xts : Int32) (xus : (Nat → Int32)) (xnu : (Nat → Int32)) (xth : Int32) (xsp : Int32) (xpr : (Nat → Int64)) (xpn : (Nat → Int64)) (xbs : Int32) (xwr : (Nat → Int32)) (xno : (Nat → Int32)) (xki : (Nat → Int32)) (xdi : (Nat → Int32)) (xde : (Nat → Int32)) (xst : (Nat → Int32)) (xta : (Nat → Int32)) (xcb : Int32) (xcd : Int32) (xbe : (Nat → Int32)) (xli : (Nat → Int32)) (xke : (Nat → Int32)) (xne : (Nat → Int64)) : va_W := [(q 0, .inr (8, [.ref (q 1), .ref (q 4), .ref (q 7), .ref (q 10), .ref (q 22), .ref (q 24), .ref (q 27)])), (q 1, .inr (4, [.ref (q 2), .ref (q 3)])), (q 2, .inl (κ.2.1.2.2.1, nn, .inr (.inl xro))), (q 3, .inl (κ.2.1.2.2.1, nn, .inr (.inl xrn))), (q 4, .inr (5, [.ref (q 5), .ref (q 6)])), (q 5, .inl (κ.2.1.2.1, 8, .inl xfo)), (q 6, .inl (κ.2.1.2.1, 3, .inl xva)), (q 7, .inr (6, [.ref (q 8), .ref (q 9), .int xts])), (q 8, .inl (κ.2.1.2.1, 160, .inl xus)), (q 9, .inl (κ.2.1.2.1, 160, .inl xnu)), (q 10, .inr (1, [.ref (q 11), .ref (q 14), .ref (q 17), .ref (q 18), .ref (q 19), .ref (q 20), .ref (q 21), .int xth, .int xsp])), (q 11, .inr (4, [.ref (q 12), .ref (q 13)])), (q 12, .inl (κ.2.1.2.2.1, nn, .inr (.inl xpr))), (q 13, .inl (κ.2.1.2.2.1, nn, .inr (.inl xpn))), (q 14, .inr (0, [.ref (q 15), .ref (q 16), .int xbs])), (q 15, .inl (κ.2.1.2.1, (64 * nn), .inl xwr)), (q 16, .inl (κ.2.1.2.1, (64 * nn), .inl xno)), (q 17, .inl (κ.2.1.2.1, nn, .inl xki)), (q 18, .inl (κ.2.1.2.1, nn, .inl xdi)), (q 19, .inl (κ.2.1.2.1, nn, .inl xde)), (q 20, .inl (κ.2.1.2.1, (nn + 1), .inl xst)), (q 21, .inl (κ.2.1.2.1, 768, .inl xta)), (q 22, .inr (2, [.int (nI nn), .ref (q 23), .int xcb, .int xcd])), (q 23, .inl (κ.2.1.2.1, (6 * nn), .inl xbe)), (q 24, .inr (3, [.ref (q 25), .ref (q 26)])), (q 25, .inl (κ.2.1.2.1, nn, .inl xli)), (q 26, .inl (κ.2.1.2.1, nn, .inl xke)), (q 27, .inr (7, [.ref (q 28)])), (q 28, .inl (κ.2.1.2.2.1, nn, .inr (.inl xne)))]
def mw (κ : xb_k) (q : Nat → Nat) (mth : Int32) (mn : Int32) (mib : Int32) (mpa : Int32) (mwi : Int32) (mch : Int32) (mst : Int32) (msz : Int32) (mns : Int32) (mld : Int32) (mps : Int32) (mbb : Int32) (mno : (Nat → Int32)) (mpk : (Nat → Int32)) (mtu : (Nat → Int32)) (mfo : (Nat → Int32)) (mbi : (Nat → Int32)) (mwr : (Nat → Int32)) (mus : (Nat → Int32)) (mnu : (Nat → Int32)) (mli : (Nat → Int32)) (mot : (Nat → Int32)) (mbl : (Nat → Int32)) (mki : (Nat → Int32)) (mfr : (Nat → Int32)) (mde : (Nat → Int32)) (mbe : (Nat → Int32)) (mow : (Nat → Int32)) (mco : (Nat → Int32)) (mpt : (Nat → Int32)) (mle : (Nat → Int32)) (mpl : (Nat → Int32)) (mit : (Nat → Int32)) (mro : (Nat → Int32)) (maw : (Nat → Int32)) : va_W := [(q 0, .inr (9, [.int mth, .int mn, .ref (q 1), .ref (q 2), .ref (q 3), .int mib, .int mpa, .ref (q 4), .int mwi, .int mch, .int mst, .ref (q 5), .ref (q 6), .int msz, .ref (q 7), .ref (q 8), .int mns, .ref (q 9), .int mld, .ref (q 10), .ref (q 11), .ref (q 12), .ref (q 13), .ref (q 14), .ref (q 15), .int mps, .int mbb, .ref (q 16), .ref (q 17), .ref (q 18), .ref (q 19), .ref (q 20), .ref (q 21), .ref (q 22), .ref (q 23)])), (q 1, .inl (κ.2.1.2.2.2, 2304, .inl mno)), (q 2, .inl (κ.2.1.2.2.2, 2304, .inl mpk)), (q 3, .inl (κ.2.1.2.2.2, 2304, .inl mtu)), (q 4, .inl (κ.2.1.2.1, 8, .inl mfo)), (q 5, .inl (κ.2.1.2.1, 16384, .inl mbi)), (q 6, .inl (κ.2.1.2.1, 16384, .inl mwr)), (q 7, .inl (κ.2.1.2.1, 400, .inl mus)), (q 8, .inl (κ.2.1.2.1, 400, .inl mnu)), (q 9, .inl (κ.2.1.2.1, 48, .inl mli)), (q 10, .inl (κ.2.1.2.1, 48, .inl mot)), (q 11, .inl (κ.2.1.2.1, 50, .inl mbl)), (q 12, .inl (κ.2.1.2.1, 48, .inl mki)), (q 13, .inl (κ.2.1.2.1, 48, .inl mfr)), (q 14, .inl (κ.2.1.2.1, 48, .inl mde)), (q 15, .inl (κ.2.1.2.1, 49, .inl mbe)), (q 16, .inl (κ.2.1.2.1, 48, .inl mow)), (q 17, .inl (κ.2.1.2.1, 48, .inl mco)), (q 18, .inl (κ.2.1.2.1, 48, .inl mpt)), (q 19, .inl (κ.2.1.2.1, 336, .inl mle)), (q 20, .inl (κ.2.1.2.1, 48, .inl mpl)), (q 21, .inl (κ.2.1.2.2.2, 48, .inl mit)), (q 22, .inl (κ.2.1.2.1, 48, .inl mro)), (q 23, .inl (κ.2.1.2.1, 48, .inl maw))]
section
variable {κ : xb_k} {Γ : xb_X} {nL cells slots pc : Nat} {lv : List (Nat × Value)} {st : List Value} {ws : va_W} {cc : ByteArray} {rm : Room}
theorem gf_X4_7 {a : Nat} {fs : List Value} {v : Value} (C : xb_C κ Γ nL cc RX4 rm) (q0 : Nat) (he : ws[q0]? = some (a, .inr (4, fs))) (hv : fs[0]? = some v) (hd : decode cc pc = .ok (.getfield 7, 3)) (k : xb_W κ Γ nL cells slots (pc + 3) lv (v :: st) ws) : xb_W κ Γ nL cells slots pc lv (.ref a :: st) ws := x_get C q0 he rfl 0 (by decide) kw_X4 fl_X4_7 hv hd k
theorem gf_X4_13 {a : Nat} {fs : List Value} {v : Value} (C : xb_C κ Γ nL cc RX4 rm) (q0 : Nat) (he : ws[q0]? = some (a, .inr (4, fs))) (hv : fs[1]? = some v) (hd : decode cc pc = .ok (.getfield 13, 3)) (k : xb_W κ Γ nL cells slots (pc + 3) lv (v :: st) ws) : xb_W κ Γ nL cells slots pc lv (.ref a :: st) ws := x_get C q0 he rfl 1 (by decide) kw_X4 fl_X4_13 hv hd k
theorem gf_X5_7 {a : Nat} {fs : List Value} {v : Value} (C : xb_C κ Γ nL cc RX5 rm) (q0 : Nat) (he : ws[q0]? = some (a, .inr (5, fs))) (hv : fs[0]? = some v) (hd : decode cc pc = .ok (.getfield 7, 3)) (k : xb_W κ Γ nL cells slots (pc + 3) lv (v :: st) ws) : xb_W κ Γ nL cells slots pc lv (.ref a :: st) ws := x_get C q0 he rfl 0 (by decide) kw_X5 fl_X5_7 hv hd k
theorem gf_X5_13 {a : Nat} {fs : List Value} {v : Value} (C : xb_C κ Γ nL cc RX5 rm) (q0 : Nat) (he : ws[q0]? = some (a, .inr (5, fs))) (hv : fs[1]? = some v) (hd : decode cc pc = .ok (.getfield 13, 3)) (k : xb_W κ Γ nL cells slots (pc + 3) lv (v :: st) ws) : xb_W κ Γ nL cells slots pc lv (.ref a :: st) ws := x_get C q0 he rfl 1 (by decide) kw_X5 fl_X5_13 hv hd k
theorem gf_X6_11 {a : Nat} {fs : List Value} {v : Value} (C : xb_C κ Γ nL cc RX6 rm) (q0 : Nat) (he : ws[q0]? = some (a, .inr (6, fs))) (hv : fs[0]? = some v) (hd : decode cc pc = .ok (.getfield 11, 3)) (k : xb_W κ Γ nL cells slots (pc + 3) lv (v :: st) ws) : xb_W κ Γ nL cells slots pc lv (.ref a :: st) ws := x_get C q0 he rfl 0 (by decide) kw_X6 fl_X6_11 hv hd k
theorem gf_X6_15 {a : Nat} {fs : List Value} {v : Value} (C : xb_C κ Γ nL cc RX6 rm) (q0 : Nat) (he : ws[q0]? = some (a, .inr (6, fs))) (hv : fs[1]? = some v) (hd : decode cc pc = .ok (.getfield 15, 3)) (k : xb_W κ Γ nL cells slots (pc + 3) lv (v :: st) ws) : xb_W κ Γ nL cells slots pc lv (.ref a :: st) ws := x_get C q0 he rfl 1 (by decide) kw_X6 fl_X6_15 hv hd k
theorem gf_X6_18 {a : Nat} {fs : List Value} {v : Value} (C : xb_C κ Γ nL cc RX6 rm) (q0 : Nat) (he : ws[q0]? = some (a, .inr (6, fs))) (hv : fs[2]? = some v) (hd : decode cc pc = .ok (.getfield 18, 3)) (k : xb_W κ Γ nL cells slots (pc + 3) lv (v :: st) ws) : xb_W κ Γ nL cells slots pc lv (.ref a :: st) ws := x_get C q0 he rfl 2 (by decide) kw_X6 fl_X6_18 hv hd k
theorem pf_X6_18 {a : Nat} {fs : List Value} {x : Int32} {ws2 : va_W} (C : xb_C κ Γ nL cc RX6 rm) (q0 : Nat) (he : ws[q0]? = some (a, .inr (6, fs))) (hd : decode cc pc = .ok (.putfield 18, 3)) (h2 : ws.set q0 (a, .inr (6, fs.set 2 (.int x))) = ws2) (hlen : Nat.ble 3 fs.length = true) (k : xb_W κ Γ nL cells slots (pc + 3) lv st ws2) : xb_W κ Γ nL cells slots pc lv (.int x :: .ref a :: st) ws := x_put (ty := .int) tyX6 C q0 he rfl 2 (by decide) kw_X6 tyX6_ok nmX6 fl_X6_18 rfl (by decide +kernel) rfl rfl (Nat.le_of_ble_eq_true hlen) hd h2 k
theorem gf_X0_21 {a : Nat} {fs : List Value} {v : Value} (C : xb_C κ Γ nL cc RX0 rm) (q0 : Nat) (he : ws[q0]? = some (a, .inr (0, fs))) (hv : fs[0]? = some v) (hd : decode cc pc = .ok (.getfield 21, 3)) (k : xb_W κ Γ nL cells slots (pc + 3) lv (v :: st) ws) : xb_W κ Γ nL cells slots pc lv (.ref a :: st) ws := x_get C q0 he rfl 0 (by decide) kw_X0 fl_X0_21 hv hd k
theorem gf_X0_25 {a : Nat} {fs : List Value} {v : Value} (C : xb_C κ Γ nL cc RX0 rm) (q0 : Nat) (he : ws[q0]? = some (a, .inr (0, fs))) (hv : fs[1]? = some v) (hd : decode cc pc = .ok (.getfield 25, 3)) (k : xb_W κ Γ nL cells slots (pc + 3) lv (v :: st) ws) : xb_W κ Γ nL cells slots pc lv (.ref a :: st) ws := x_get C q0 he rfl 1 (by decide) kw_X0 fl_X0_25 hv hd k
theorem gf_X0_9 {a : Nat} {fs : List Value} {v : Value} (C : xb_C κ Γ nL cc RX0 rm) (q0 : Nat) (he : ws[q0]? = some (a, .inr (0, fs))) (hv : fs[2]? = some v) (hd : decode cc pc = .ok (.getfield 9, 3)) (k : xb_W κ Γ nL cells slots (pc + 3) lv (v :: st) ws) : xb_W κ Γ nL cells slots pc lv (.ref a :: st) ws := x_get C q0 he rfl 2 (by decide) kw_X0 fl_X0_9 hv hd k
theorem pf_X0_9 {a : Nat} {fs : List Value} {x : Int32} {ws2 : va_W} (C : xb_C κ Γ nL cc RX0 rm) (q0 : Nat) (he : ws[q0]? = some (a, .inr (0, fs))) (hd : decode cc pc = .ok (.putfield 9, 3)) (h2 : ws.set q0 (a, .inr (0, fs.set 2 (.int x))) = ws2) (hlen : Nat.ble 3 fs.length = true) (k : xb_W κ Γ nL cells slots (pc + 3) lv st ws2) : xb_W κ Γ nL cells slots pc lv (.int x :: .ref a :: st) ws := x_put (ty := .int) tyX0 C q0 he rfl 2 (by decide) kw_X0 tyX0_ok nmX0 fl_X0_9 rfl (by decide +kernel) rfl rfl (Nat.le_of_ble_eq_true hlen) hd h2 k
theorem gf_X1_28 {a : Nat} {fs : List Value} {v : Value} (C : xb_C κ Γ nL cc RX1 rm) (q0 : Nat) (he : ws[q0]? = some (a, .inr (1, fs))) (hv : fs[0]? = some v) (hd : decode cc pc = .ok (.getfield 28, 3)) (k : xb_W κ Γ nL cells slots (pc + 3) lv (v :: st) ws) : xb_W κ Γ nL cells slots pc lv (.ref a :: st) ws := x_get C q0 he rfl 0 (by decide) kw_X1 fl_X1_28 hv hd k
theorem gf_X1_35 {a : Nat} {fs : List Value} {v : Value} (C : xb_C κ Γ nL cc RX1 rm) (q0 : Nat) (he : ws[q0]? = some (a, .inr (1, fs))) (hv : fs[1]? = some v) (hd : decode cc pc = .ok (.getfield 35, 3)) (k : xb_W κ Γ nL cells slots (pc + 3) lv (v :: st) ws) : xb_W κ Γ nL cells slots pc lv (.ref a :: st) ws := x_get C q0 he rfl 1 (by decide) kw_X1 fl_X1_35 hv hd k
theorem gf_X1_39 {a : Nat} {fs : List Value} {v : Value} (C : xb_C κ Γ nL cc RX1 rm) (q0 : Nat) (he : ws[q0]? = some (a, .inr (1, fs))) (hv : fs[2]? = some v) (hd : decode cc pc = .ok (.getfield 39, 3)) (k : xb_W κ Γ nL cells slots (pc + 3) lv (v :: st) ws) : xb_W κ Γ nL cells slots pc lv (.ref a :: st) ws := x_get C q0 he rfl 2 (by decide) kw_X1 fl_X1_39 hv hd k
theorem gf_X1_42 {a : Nat} {fs : List Value} {v : Value} (C : xb_C κ Γ nL cc RX1 rm) (q0 : Nat) (he : ws[q0]? = some (a, .inr (1, fs))) (hv : fs[3]? = some v) (hd : decode cc pc = .ok (.getfield 42, 3)) (k : xb_W κ Γ nL cells slots (pc + 3) lv (v :: st) ws) : xb_W κ Γ nL cells slots pc lv (.ref a :: st) ws := x_get C q0 he rfl 3 (by decide) kw_X1 fl_X1_42 hv hd k
theorem gf_X1_45 {a : Nat} {fs : List Value} {v : Value} (C : xb_C κ Γ nL cc RX1 rm) (q0 : Nat) (he : ws[q0]? = some (a, .inr (1, fs))) (hv : fs[4]? = some v) (hd : decode cc pc = .ok (.getfield 45, 3)) (k : xb_W κ Γ nL cells slots (pc + 3) lv (v :: st) ws) : xb_W κ Γ nL cells slots pc lv (.ref a :: st) ws := x_get C q0 he rfl 4 (by decide) kw_X1 fl_X1_45 hv hd k
theorem gf_X1_48 {a : Nat} {fs : List Value} {v : Value} (C : xb_C κ Γ nL cc RX1 rm) (q0 : Nat) (he : ws[q0]? = some (a, .inr (1, fs))) (hv : fs[5]? = some v) (hd : decode cc pc = .ok (.getfield 48, 3)) (k : xb_W κ Γ nL cells slots (pc + 3) lv (v :: st) ws) : xb_W κ Γ nL cells slots pc lv (.ref a :: st) ws := x_get C q0 he rfl 5 (by decide) kw_X1 fl_X1_48 hv hd k
theorem gf_X1_11 {a : Nat} {fs : List Value} {v : Value} (C : xb_C κ Γ nL cc RX1 rm) (q0 : Nat) (he : ws[q0]? = some (a, .inr (1, fs))) (hv : fs[6]? = some v) (hd : decode cc pc = .ok (.getfield 11, 3)) (k : xb_W κ Γ nL cells slots (pc + 3) lv (v :: st) ws) : xb_W κ Γ nL cells slots pc lv (.ref a :: st) ws := x_get C q0 he rfl 6 (by decide) kw_X1 fl_X1_11 hv hd k
theorem gf_X1_15 {a : Nat} {fs : List Value} {v : Value} (C : xb_C κ Γ nL cc RX1 rm) (q0 : Nat) (he : ws[q0]? = some (a, .inr (1, fs))) (hv : fs[7]? = some v) (hd : decode cc pc = .ok (.getfield 15, 3)) (k : xb_W κ Γ nL cells slots (pc + 3) lv (v :: st) ws) : xb_W κ Γ nL cells slots pc lv (.ref a :: st) ws := x_get C q0 he rfl 7 (by decide) kw_X1 fl_X1_15 hv hd k
theorem pf_X1_15 {a : Nat} {fs : List Value} {x : Int32} {ws2 : va_W} (C : xb_C κ Γ nL cc RX1 rm) (q0 : Nat) (he : ws[q0]? = some (a, .inr (1, fs))) (hz : narrow .boolean (.int x) = .int x) (hz2 : fits .boolean (.int x) = true) (hd : decode cc pc = .ok (.putfield 15, 3)) (h2 : ws.set q0 (a, .inr (1, fs.set 7 (.int x))) = ws2) (hlen : Nat.ble 8 fs.length = true) (k : xb_W κ Γ nL cells slots (pc + 3) lv st ws2) : xb_W κ Γ nL cells slots pc lv (.int x :: .ref a :: st) ws := x_put (ty := .boolean) tyX1 C q0 he rfl 7 (by decide) kw_X1 tyX1_ok nmX1 fl_X1_15 rfl (by decide +kernel) hz hz2 (Nat.le_of_ble_eq_true hlen) hd h2 k
theorem gf_X1_19 {a : Nat} {fs : List Value} {v : Value} (C : xb_C κ Γ nL cc RX1 rm) (q0 : Nat) (he : ws[q0]? = some (a, .inr (1, fs))) (hv : fs[8]? = some v) (hd : decode cc pc = .ok (.getfield 19, 3)) (k : xb_W κ Γ nL cells slots (pc + 3) lv (v :: st) ws) : xb_W κ Γ nL cells slots pc lv (.ref a :: st) ws := x_get C q0 he rfl 8 (by decide) kw_X1 fl_X1_19 hv hd k
theorem pf_X1_19 {a : Nat} {fs : List Value} {x : Int32} {ws2 : va_W} (C : xb_C κ Γ nL cc RX1 rm) (q0 : Nat) (he : ws[q0]? = some (a, .inr (1, fs))) (hd : decode cc pc = .ok (.putfield 19, 3)) (h2 : ws.set q0 (a, .inr (1, fs.set 8 (.int x))) = ws2) (hlen : Nat.ble 9 fs.length = true) (k : xb_W κ Γ nL cells slots (pc + 3) lv st ws2) : xb_W κ Γ nL cells slots pc lv (.int x :: .ref a :: st) ws := x_put (ty := .int) tyX1 C q0 he rfl 8 (by decide) kw_X1 tyX1_ok nmX1 fl_X1_19 rfl (by decide +kernel) rfl rfl (Nat.le_of_ble_eq_true hlen) hd h2 k
theorem gf_X2_18 {a : Nat} {fs : List Value} {v : Value} (C : xb_C κ Γ nL cc RX2 rm) (q0 : Nat) (he : ws[q0]? = some (a, .inr (2, fs))) (hv : fs[0]? = some v) (hd : decode cc pc = .ok (.getfield 18, 3)) (k : xb_W κ Γ nL cells slots (pc + 3) lv (v :: st) ws) : xb_W κ Γ nL cells slots pc lv (.ref a :: st) ws := x_get C q0 he rfl 0 (by decide) kw_X2 fl_X2_18 hv hd k
theorem gf_X2_21 {a : Nat} {fs : List Value} {v : Value} (C : xb_C κ Γ nL cc RX2 rm) (q0 : Nat) (he : ws[q0]? = some (a, .inr (2, fs))) (hv : fs[1]? = some v) (hd : decode cc pc = .ok (.getfield 21, 3)) (k : xb_W κ Γ nL cells slots (pc + 3) lv (v :: st) ws) : xb_W κ Γ nL cells slots pc lv (.ref a :: st) ws := x_get C q0 he rfl 1 (by decide) kw_X2 fl_X2_21 hv hd k
theorem gf_X2_9 {a : Nat} {fs : List Value} {v : Value} (C : xb_C κ Γ nL cc RX2 rm) (q0 : Nat) (he : ws[q0]? = some (a, .inr (2, fs))) (hv : fs[2]? = some v) (hd : decode cc pc = .ok (.getfield 9, 3)) (k : xb_W κ Γ nL cells slots (pc + 3) lv (v :: st) ws) : xb_W κ Γ nL cells slots pc lv (.ref a :: st) ws := x_get C q0 he rfl 2 (by decide) kw_X2 fl_X2_9 hv hd k
theorem pf_X2_9 {a : Nat} {fs : List Value} {x : Int32} {ws2 : va_W} (C : xb_C κ Γ nL cc RX2 rm) (q0 : Nat) (he : ws[q0]? = some (a, .inr (2, fs))) (hd : decode cc pc = .ok (.putfield 9, 3)) (h2 : ws.set q0 (a, .inr (2, fs.set 2 (.int x))) = ws2) (hlen : Nat.ble 3 fs.length = true) (k : xb_W κ Γ nL cells slots (pc + 3) lv st ws2) : xb_W κ Γ nL cells slots pc lv (.int x :: .ref a :: st) ws := x_put (ty := .int) tyX2 C q0 he rfl 2 (by decide) kw_X2 tyX2_ok nmX2 fl_X2_9 rfl (by decide +kernel) rfl rfl (Nat.le_of_ble_eq_true hlen) hd h2 k
theorem gf_X2_15 {a : Nat} {fs : List Value} {v : Value} (C : xb_C κ Γ nL cc RX2 rm) (q0 : Nat) (he : ws[q0]? = some (a, .inr (2, fs))) (hv : fs[3]? = some v) (hd : decode cc pc = .ok (.getfield 15, 3)) (k : xb_W κ Γ nL cells slots (pc + 3) lv (v :: st) ws) : xb_W κ Γ nL cells slots pc lv (.ref a :: st) ws := x_get C q0 he rfl 3 (by decide) kw_X2 fl_X2_15 hv hd k
theorem pf_X2_15 {a : Nat} {fs : List Value} {x : Int32} {ws2 : va_W} (C : xb_C κ Γ nL cc RX2 rm) (q0 : Nat) (he : ws[q0]? = some (a, .inr (2, fs))) (hd : decode cc pc = .ok (.putfield 15, 3)) (h2 : ws.set q0 (a, .inr (2, fs.set 3 (.int x))) = ws2) (hlen : Nat.ble 4 fs.length = true) (k : xb_W κ Γ nL cells slots (pc + 3) lv st ws2) : xb_W κ Γ nL cells slots pc lv (.int x :: .ref a :: st) ws := x_put (ty := .int) tyX2 C q0 he rfl 3 (by decide) kw_X2 tyX2_ok nmX2 fl_X2_15 rfl (by decide +kernel) rfl rfl (Nat.le_of_ble_eq_true hlen) hd h2 k
theorem gf_X3_9 {a : Nat} {fs : List Value} {v : Value} (C : xb_C κ Γ nL cc RX3 rm) (q0 : Nat) (he : ws[q0]? = some (a, .inr (3, fs))) (hv : fs[0]? = some v) (hd : decode cc pc = .ok (.getfield 9, 3)) (k : xb_W κ Γ nL cells slots (pc + 3) lv (v :: st) ws) : xb_W κ Γ nL cells slots pc lv (.ref a :: st) ws := x_get C q0 he rfl 0 (by decide) kw_X3 fl_X3_9 hv hd k
theorem gf_X3_15 {a : Nat} {fs : List Value} {v : Value} (C : xb_C κ Γ nL cc RX3 rm) (q0 : Nat) (he : ws[q0]? = some (a, .inr (3, fs))) (hv : fs[1]? = some v) (hd : decode cc pc = .ok (.getfield 15, 3)) (k : xb_W κ Γ nL cells slots (pc + 3) lv (v :: st) ws) : xb_W κ Γ nL cells slots pc lv (.ref a :: st) ws := x_get C q0 he rfl 1 (by decide) kw_X3 fl_X3_15 hv hd k
theorem gf_X7_9 {a : Nat} {fs : List Value} {v : Value} (C : xb_C κ Γ nL cc RX7 rm) (q0 : Nat) (he : ws[q0]? = some (a, .inr (7, fs))) (hv : fs[0]? = some v) (hd : decode cc pc = .ok (.getfield 9, 3)) (k : xb_W κ Γ nL cells slots (pc + 3) lv (v :: st) ws) : xb_W κ Γ nL cells slots pc lv (.ref a :: st) ws := x_get C q0 he rfl 0 (by decide) kw_X7 fl_X7_9 hv hd k
theorem gf_X8_23 {a : Nat} {fs : List Value} {v : Value} (C : xb_C κ Γ nL cc RX8 rm) (q0 : Nat) (he : ws[q0]? = some (a, .inr (8, fs))) (hv : fs[0]? = some v) (hd : decode cc pc = .ok (.getfield 23, 3)) (k : xb_W κ Γ nL cells slots (pc + 3) lv (v :: st) ws) : xb_W κ Γ nL cells slots pc lv (.ref a :: st) ws := x_get C q0 he rfl 0 (by decide) kw_X8 fl_X8_23 hv hd k
theorem gf_X8_30 {a : Nat} {fs : List Value} {v : Value} (C : xb_C κ Γ nL cc RX8 rm) (q0 : Nat) (he : ws[q0]? = some (a, .inr (8, fs))) (hv : fs[1]? = some v) (hd : decode cc pc = .ok (.getfield 30, 3)) (k : xb_W κ Γ nL cells slots (pc + 3) lv (v :: st) ws) : xb_W κ Γ nL cells slots pc lv (.ref a :: st) ws := x_get C q0 he rfl 1 (by decide) kw_X8 fl_X8_30 hv hd k
theorem gf_X8_37 {a : Nat} {fs : List Value} {v : Value} (C : xb_C κ Γ nL cc RX8 rm) (q0 : Nat) (he : ws[q0]? = some (a, .inr (8, fs))) (hv : fs[2]? = some v) (hd : decode cc pc = .ok (.getfield 37, 3)) (k : xb_W κ Γ nL cells slots (pc + 3) lv (v :: st) ws) : xb_W κ Γ nL cells slots pc lv (.ref a :: st) ws := x_get C q0 he rfl 2 (by decide) kw_X8 fl_X8_37 hv hd k
theorem gf_X8_44 {a : Nat} {fs : List Value} {v : Value} (C : xb_C κ Γ nL cc RX8 rm) (q0 : Nat) (he : ws[q0]? = some (a, .inr (8, fs))) (hv : fs[3]? = some v) (hd : decode cc pc = .ok (.getfield 44, 3)) (k : xb_W κ Γ nL cells slots (pc + 3) lv (v :: st) ws) : xb_W κ Γ nL cells slots pc lv (.ref a :: st) ws := x_get C q0 he rfl 3 (by decide) kw_X8 fl_X8_44 hv hd k
theorem gf_X8_51 {a : Nat} {fs : List Value} {v : Value} (C : xb_C κ Γ nL cc RX8 rm) (q0 : Nat) (he : ws[q0]? = some (a, .inr (8, fs))) (hv : fs[4]? = some v) (hd : decode cc pc = .ok (.getfield 51, 3)) (k : xb_W κ Γ nL cells slots (pc + 3) lv (v :: st) ws) : xb_W κ Γ nL cells slots pc lv (.ref a :: st) ws := x_get C q0 he rfl 4 (by decide) kw_X8 fl_X8_51 hv hd k
theorem gf_X8_58 {a : Nat} {fs : List Value} {v : Value} (C : xb_C κ Γ nL cc RX8 rm) (q0 : Nat) (he : ws[q0]? = some (a, .inr (8, fs))) (hv : fs[5]? = some v) (hd : decode cc pc = .ok (.getfield 58, 3)) (k : xb_W κ Γ nL cells slots (pc + 3) lv (v :: st) ws) : xb_W κ Γ nL cells slots pc lv (.ref a :: st) ws := x_get C q0 he rfl 5 (by decide) kw_X8 fl_X8_58 hv hd k
theorem gf_X8_65 {a : Nat} {fs : List Value} {v : Value} (C : xb_C κ Γ nL cc RX8 rm) (q0 : Nat) (he : ws[q0]? = some (a, .inr (8, fs))) (hv : fs[6]? = some v) (hd : decode cc pc = .ok (.getfield 65, 3)) (k : xb_W κ Γ nL cells slots (pc + 3) lv (v :: st) ws) : xb_W κ Γ nL cells slots pc lv (.ref a :: st) ws := x_get C q0 he rfl 6 (by decide) kw_X8 fl_X8_65 hv hd k
theorem gf_X9_1 {a : Nat} {fs : List Value} {v : Value} (C : xb_C κ Γ nL cc RX9 rm) (q0 : Nat) (he : ws[q0]? = some (a, .inr (9, fs))) (hv : fs[0]? = some v) (hd : decode cc pc = .ok (.getfield 1, 3)) (k : xb_W κ Γ nL cells slots (pc + 3) lv (v :: st) ws) : xb_W κ Γ nL cells slots pc lv (.ref a :: st) ws := x_get C q0 he rfl 0 (by decide) kw_X9 fl_X9_1 hv hd k
theorem pf_X9_1 {a : Nat} {fs : List Value} {x : Int32} {ws2 : va_W} (C : xb_C κ Γ nL cc RX9 rm) (q0 : Nat) (he : ws[q0]? = some (a, .inr (9, fs))) (hd : decode cc pc = .ok (.putfield 1, 3)) (h2 : ws.set q0 (a, .inr (9, fs.set 0 (.int x))) = ws2) (hlen : Nat.ble 1 fs.length = true) (k : xb_W κ Γ nL cells slots (pc + 3) lv st ws2) : xb_W κ Γ nL cells slots pc lv (.int x :: .ref a :: st) ws := x_put (ty := .int) tyX9 C q0 he rfl 0 (by decide) kw_X9 tyX9_ok nmX9 fl_X9_1 rfl (by decide +kernel) rfl rfl (Nat.le_of_ble_eq_true hlen) hd h2 k
theorem gf_X9_93 {a : Nat} {fs : List Value} {v : Value} (C : xb_C κ Γ nL cc RX9 rm) (q0 : Nat) (he : ws[q0]? = some (a, .inr (9, fs))) (hv : fs[1]? = some v) (hd : decode cc pc = .ok (.getfield 93, 3)) (k : xb_W κ Γ nL cells slots (pc + 3) lv (v :: st) ws) : xb_W κ Γ nL cells slots pc lv (.ref a :: st) ws := x_get C q0 he rfl 1 (by decide) kw_X9 fl_X9_93 hv hd k
theorem gf_X9_13 {a : Nat} {fs : List Value} {v : Value} (C : xb_C κ Γ nL cc RX9 rm) (q0 : Nat) (he : ws[q0]? = some (a, .inr (9, fs))) (hv : fs[2]? = some v) (hd : decode cc pc = .ok (.getfield 13, 3)) (k : xb_W κ Γ nL cells slots (pc + 3) lv (v :: st) ws) : xb_W κ Γ nL cells slots pc lv (.ref a :: st) ws := x_get C q0 he rfl 2 (by decide) kw_X9 fl_X9_13 hv hd k
theorem gf_X9_17 {a : Nat} {fs : List Value} {v : Value} (C : xb_C κ Γ nL cc RX9 rm) (q0 : Nat) (he : ws[q0]? = some (a, .inr (9, fs))) (hv : fs[3]? = some v) (hd : decode cc pc = .ok (.getfield 17, 3)) (k : xb_W κ Γ nL cells slots (pc + 3) lv (v :: st) ws) : xb_W κ Γ nL cells slots pc lv (.ref a :: st) ws := x_get C q0 he rfl 3 (by decide) kw_X9 fl_X9_17 hv hd k
theorem gf_X9_20 {a : Nat} {fs : List Value} {v : Value} (C : xb_C κ Γ nL cc RX9 rm) (q0 : Nat) (he : ws[q0]? = some (a, .inr (9, fs))) (hv : fs[4]? = some v) (hd : decode cc pc = .ok (.getfield 20, 3)) (k : xb_W κ Γ nL cells slots (pc + 3) lv (v :: st) ws) : xb_W κ Γ nL cells slots pc lv (.ref a :: st) ws := x_get C q0 he rfl 4 (by decide) kw_X9 fl_X9_20 hv hd k
theorem gf_X9_100 {a : Nat} {fs : List Value} {v : Value} (C : xb_C κ Γ nL cc RX9 rm) (q0 : Nat) (he : ws[q0]? = some (a, .inr (9, fs))) (hv : fs[5]? = some v) (hd : decode cc pc = .ok (.getfield 100, 3)) (k : xb_W κ Γ nL cells slots (pc + 3) lv (v :: st) ws) : xb_W κ Γ nL cells slots pc lv (.ref a :: st) ws := x_get C q0 he rfl 5 (by decide) kw_X9 fl_X9_100 hv hd k
theorem pf_X9_100 {a : Nat} {fs : List Value} {x : Int32} {ws2 : va_W} (C : xb_C κ Γ nL cc RX9 rm) (q0 : Nat) (he : ws[q0]? = some (a, .inr (9, fs))) (hz : narrow .boolean (.int x) = .int x) (hz2 : fits .boolean (.int x) = true) (hd : decode cc pc = .ok (.putfield 100, 3)) (h2 : ws.set q0 (a, .inr (9, fs.set 5 (.int x))) = ws2) (hlen : Nat.ble 6 fs.length = true) (k : xb_W κ Γ nL cells slots (pc + 3) lv st ws2) : xb_W κ Γ nL cells slots pc lv (.int x :: .ref a :: st) ws := x_put (ty := .boolean) tyX9 C q0 he rfl 5 (by decide) kw_X9 tyX9_ok nmX9 fl_X9_100 rfl (by decide +kernel) hz hz2 (Nat.le_of_ble_eq_true hlen) hd h2 k
theorem gf_X9_104 {a : Nat} {fs : List Value} {v : Value} (C : xb_C κ Γ nL cc RX9 rm) (q0 : Nat) (he : ws[q0]? = some (a, .inr (9, fs))) (hv : fs[6]? = some v) (hd : decode cc pc = .ok (.getfield 104, 3)) (k : xb_W κ Γ nL cells slots (pc + 3) lv (v :: st) ws) : xb_W κ Γ nL cells slots pc lv (.ref a :: st) ws := x_get C q0 he rfl 6 (by decide) kw_X9 fl_X9_104 hv hd k
theorem pf_X9_104 {a : Nat} {fs : List Value} {x : Int32} {ws2 : va_W} (C : xb_C κ Γ nL cc RX9 rm) (q0 : Nat) (he : ws[q0]? = some (a, .inr (9, fs))) (hd : decode cc pc = .ok (.putfield 104, 3)) (h2 : ws.set q0 (a, .inr (9, fs.set 6 (.int x))) = ws2) (hlen : Nat.ble 7 fs.length = true) (k : xb_W κ Γ nL cells slots (pc + 3) lv st ws2) : xb_W κ Γ nL cells slots pc lv (.int x :: .ref a :: st) ws := x_put (ty := .int) tyX9 C q0 he rfl 6 (by decide) kw_X9 tyX9_ok nmX9 fl_X9_104 rfl (by decide +kernel) rfl rfl (Nat.le_of_ble_eq_true hlen) hd h2 k
theorem gf_X9_23 {a : Nat} {fs : List Value} {v : Value} (C : xb_C κ Γ nL cc RX9 rm) (q0 : Nat) (he : ws[q0]? = some (a, .inr (9, fs))) (hv : fs[7]? = some v) (hd : decode cc pc = .ok (.getfield 23, 3)) (k : xb_W κ Γ nL cells slots (pc + 3) lv (v :: st) ws) : xb_W κ Γ nL cells slots pc lv (.ref a :: st) ws := x_get C q0 he rfl 7 (by decide) kw_X9 fl_X9_23 hv hd k
theorem gf_X9_27 {a : Nat} {fs : List Value} {v : Value} (C : xb_C κ Γ nL cc RX9 rm) (q0 : Nat) (he : ws[q0]? = some (a, .inr (9, fs))) (hv : fs[8]? = some v) (hd : decode cc pc = .ok (.getfield 27, 3)) (k : xb_W κ Γ nL cells slots (pc + 3) lv (v :: st) ws) : xb_W κ Γ nL cells slots pc lv (.ref a :: st) ws := x_get C q0 he rfl 8 (by decide) kw_X9 fl_X9_27 hv hd k
theorem pf_X9_27 {a : Nat} {fs : List Value} {x : Int32} {ws2 : va_W} (C : xb_C κ Γ nL cc RX9 rm) (q0 : Nat) (he : ws[q0]? = some (a, .inr (9, fs))) (hd : decode cc pc = .ok (.putfield 27, 3)) (h2 : ws.set q0 (a, .inr (9, fs.set 8 (.int x))) = ws2) (hlen : Nat.ble 9 fs.length = true) (k : xb_W κ Γ nL cells slots (pc + 3) lv st ws2) : xb_W κ Γ nL cells slots pc lv (.int x :: .ref a :: st) ws := x_put (ty := .int) tyX9 C q0 he rfl 8 (by decide) kw_X9 tyX9_ok nmX9 fl_X9_27 rfl (by decide +kernel) rfl rfl (Nat.le_of_ble_eq_true hlen) hd h2 k
theorem gf_X9_30 {a : Nat} {fs : List Value} {v : Value} (C : xb_C κ Γ nL cc RX9 rm) (q0 : Nat) (he : ws[q0]? = some (a, .inr (9, fs))) (hv : fs[9]? = some v) (hd : decode cc pc = .ok (.getfield 30, 3)) (k : xb_W κ Γ nL cells slots (pc + 3) lv (v :: st) ws) : xb_W κ Γ nL cells slots pc lv (.ref a :: st) ws := x_get C q0 he rfl 9 (by decide) kw_X9 fl_X9_30 hv hd k
theorem pf_X9_30 {a : Nat} {fs : List Value} {x : Int32} {ws2 : va_W} (C : xb_C κ Γ nL cc RX9 rm) (q0 : Nat) (he : ws[q0]? = some (a, .inr (9, fs))) (hd : decode cc pc = .ok (.putfield 30, 3)) (h2 : ws.set q0 (a, .inr (9, fs.set 9 (.int x))) = ws2) (hlen : Nat.ble 10 fs.length = true) (k : xb_W κ Γ nL cells slots (pc + 3) lv st ws2) : xb_W κ Γ nL cells slots pc lv (.int x :: .ref a :: st) ws := x_put (ty := .int) tyX9 C q0 he rfl 9 (by decide) kw_X9 tyX9_ok nmX9 fl_X9_30 rfl (by decide +kernel) rfl rfl (Nat.le_of_ble_eq_true hlen) hd h2 k
theorem gf_X9_33 {a : Nat} {fs : List Value} {v : Value} (C : xb_C κ Γ nL cc RX9 rm) (q0 : Nat) (he : ws[q0]? = some (a, .inr (9, fs))) (hv : fs[10]? = some v) (hd : decode cc pc = .ok (.getfield 33, 3)) (k : xb_W κ Γ nL cells slots (pc + 3) lv (v :: st) ws) : xb_W κ Γ nL cells slots pc lv (.ref a :: st) ws := x_get C q0 he rfl 10 (by decide) kw_X9 fl_X9_33 hv hd k
theorem pf_X9_33 {a : Nat} {fs : List Value} {x : Int32} {ws2 : va_W} (C : xb_C κ Γ nL cc RX9 rm) (q0 : Nat) (he : ws[q0]? = some (a, .inr (9, fs))) (hd : decode cc pc = .ok (.putfield 33, 3)) (h2 : ws.set q0 (a, .inr (9, fs.set 10 (.int x))) = ws2) (hlen : Nat.ble 11 fs.length = true) (k : xb_W κ Γ nL cells slots (pc + 3) lv st ws2) : xb_W κ Γ nL cells slots pc lv (.int x :: .ref a :: st) ws := x_put (ty := .int) tyX9 C q0 he rfl 10 (by decide) kw_X9 tyX9_ok nmX9 fl_X9_33 rfl (by decide +kernel) rfl rfl (Nat.le_of_ble_eq_true hlen) hd h2 k
theorem gf_X9_36 {a : Nat} {fs : List Value} {v : Value} (C : xb_C κ Γ nL cc RX9 rm) (q0 : Nat) (he : ws[q0]? = some (a, .inr (9, fs))) (hv : fs[11]? = some v) (hd : decode cc pc = .ok (.getfield 36, 3)) (k : xb_W κ Γ nL cells slots (pc + 3) lv (v :: st) ws) : xb_W κ Γ nL cells slots pc lv (.ref a :: st) ws := x_get C q0 he rfl 11 (by decide) kw_X9 fl_X9_36 hv hd k
theorem gf_X9_39 {a : Nat} {fs : List Value} {v : Value} (C : xb_C κ Γ nL cc RX9 rm) (q0 : Nat) (he : ws[q0]? = some (a, .inr (9, fs))) (hv : fs[12]? = some v) (hd : decode cc pc = .ok (.getfield 39, 3)) (k : xb_W κ Γ nL cells slots (pc + 3) lv (v :: st) ws) : xb_W κ Γ nL cells slots pc lv (.ref a :: st) ws := x_get C q0 he rfl 12 (by decide) kw_X9 fl_X9_39 hv hd k
theorem gf_X9_122 {a : Nat} {fs : List Value} {v : Value} (C : xb_C κ Γ nL cc RX9 rm) (q0 : Nat) (he : ws[q0]? = some (a, .inr (9, fs))) (hv : fs[13]? = some v) (hd : decode cc pc = .ok (.getfield 122, 3)) (k : xb_W κ Γ nL cells slots (pc + 3) lv (v :: st) ws) : xb_W κ Γ nL cells slots pc lv (.ref a :: st) ws := x_get C q0 he rfl 13 (by decide) kw_X9 fl_X9_122 hv hd k
theorem pf_X9_122 {a : Nat} {fs : List Value} {x : Int32} {ws2 : va_W} (C : xb_C κ Γ nL cc RX9 rm) (q0 : Nat) (he : ws[q0]? = some (a, .inr (9, fs))) (hd : decode cc pc = .ok (.putfield 122, 3)) (h2 : ws.set q0 (a, .inr (9, fs.set 13 (.int x))) = ws2) (hlen : Nat.ble 14 fs.length = true) (k : xb_W κ Γ nL cells slots (pc + 3) lv st ws2) : xb_W κ Γ nL cells slots pc lv (.int x :: .ref a :: st) ws := x_put (ty := .int) tyX9 C q0 he rfl 13 (by decide) kw_X9 tyX9_ok nmX9 fl_X9_122 rfl (by decide +kernel) rfl rfl (Nat.le_of_ble_eq_true hlen) hd h2 k
theorem gf_X9_42 {a : Nat} {fs : List Value} {v : Value} (C : xb_C κ Γ nL cc RX9 rm) (q0 : Nat) (he : ws[q0]? = some (a, .inr (9, fs))) (hv : fs[14]? = some v) (hd : decode cc pc = .ok (.getfield 42, 3)) (k : xb_W κ Γ nL cells slots (pc + 3) lv (v :: st) ws) : xb_W κ Γ nL cells slots pc lv (.ref a :: st) ws := x_get C q0 he rfl 14 (by decide) kw_X9 fl_X9_42 hv hd k
theorem gf_X9_45 {a : Nat} {fs : List Value} {v : Value} (C : xb_C κ Γ nL cc RX9 rm) (q0 : Nat) (he : ws[q0]? = some (a, .inr (9, fs))) (hv : fs[15]? = some v) (hd : decode cc pc = .ok (.getfield 45, 3)) (k : xb_W κ Γ nL cells slots (pc + 3) lv (v :: st) ws) : xb_W κ Γ nL cells slots pc lv (.ref a :: st) ws := x_get C q0 he rfl 15 (by decide) kw_X9 fl_X9_45 hv hd k
theorem gf_X9_139 {a : Nat} {fs : List Value} {v : Value} (C : xb_C κ Γ nL cc RX9 rm) (q0 : Nat) (he : ws[q0]? = some (a, .inr (9, fs))) (hv : fs[16]? = some v) (hd : decode cc pc = .ok (.getfield 139, 3)) (k : xb_W κ Γ nL cells slots (pc + 3) lv (v :: st) ws) : xb_W κ Γ nL cells slots pc lv (.ref a :: st) ws := x_get C q0 he rfl 16 (by decide) kw_X9 fl_X9_139 hv hd k
theorem pf_X9_139 {a : Nat} {fs : List Value} {x : Int32} {ws2 : va_W} (C : xb_C κ Γ nL cc RX9 rm) (q0 : Nat) (he : ws[q0]? = some (a, .inr (9, fs))) (hd : decode cc pc = .ok (.putfield 139, 3)) (h2 : ws.set q0 (a, .inr (9, fs.set 16 (.int x))) = ws2) (hlen : Nat.ble 17 fs.length = true) (k : xb_W κ Γ nL cells slots (pc + 3) lv st ws2) : xb_W κ Γ nL cells slots pc lv (.int x :: .ref a :: st) ws := x_put (ty := .int) tyX9 C q0 he rfl 16 (by decide) kw_X9 tyX9_ok nmX9 fl_X9_139 rfl (by decide +kernel) rfl rfl (Nat.le_of_ble_eq_true hlen) hd h2 k
theorem gf_X9_48 {a : Nat} {fs : List Value} {v : Value} (C : xb_C κ Γ nL cc RX9 rm) (q0 : Nat) (he : ws[q0]? = some (a, .inr (9, fs))) (hv : fs[17]? = some v) (hd : decode cc pc = .ok (.getfield 48, 3)) (k : xb_W κ Γ nL cells slots (pc + 3) lv (v :: st) ws) : xb_W κ Γ nL cells slots pc lv (.ref a :: st) ws := x_get C q0 he rfl 17 (by decide) kw_X9 fl_X9_48 hv hd k
theorem gf_X9_142 {a : Nat} {fs : List Value} {v : Value} (C : xb_C κ Γ nL cc RX9 rm) (q0 : Nat) (he : ws[q0]? = some (a, .inr (9, fs))) (hv : fs[18]? = some v) (hd : decode cc pc = .ok (.getfield 142, 3)) (k : xb_W κ Γ nL cells slots (pc + 3) lv (v :: st) ws) : xb_W κ Γ nL cells slots pc lv (.ref a :: st) ws := x_get C q0 he rfl 18 (by decide) kw_X9 fl_X9_142 hv hd k
theorem pf_X9_142 {a : Nat} {fs : List Value} {x : Int32} {ws2 : va_W} (C : xb_C κ Γ nL cc RX9 rm) (q0 : Nat) (he : ws[q0]? = some (a, .inr (9, fs))) (hd : decode cc pc = .ok (.putfield 142, 3)) (h2 : ws.set q0 (a, .inr (9, fs.set 18 (.int x))) = ws2) (hlen : Nat.ble 19 fs.length = true) (k : xb_W κ Γ nL cells slots (pc + 3) lv st ws2) : xb_W κ Γ nL cells slots pc lv (.int x :: .ref a :: st) ws := x_put (ty := .int) tyX9 C q0 he rfl 18 (by decide) kw_X9 tyX9_ok nmX9 fl_X9_142 rfl (by decide +kernel) rfl rfl (Nat.le_of_ble_eq_true hlen) hd h2 k
theorem gf_X9_51 {a : Nat} {fs : List Value} {v : Value} (C : xb_C κ Γ nL cc RX9 rm) (q0 : Nat) (he : ws[q0]? = some (a, .inr (9, fs))) (hv : fs[19]? = some v) (hd : decode cc pc = .ok (.getfield 51, 3)) (k : xb_W κ Γ nL cells slots (pc + 3) lv (v :: st) ws) : xb_W κ Γ nL cells slots pc lv (.ref a :: st) ws := x_get C q0 he rfl 19 (by decide) kw_X9 fl_X9_51 hv hd k
theorem gf_X9_54 {a : Nat} {fs : List Value} {v : Value} (C : xb_C κ Γ nL cc RX9 rm) (q0 : Nat) (he : ws[q0]? = some (a, .inr (9, fs))) (hv : fs[20]? = some v) (hd : decode cc pc = .ok (.getfield 54, 3)) (k : xb_W κ Γ nL cells slots (pc + 3) lv (v :: st) ws) : xb_W κ Γ nL cells slots pc lv (.ref a :: st) ws := x_get C q0 he rfl 20 (by decide) kw_X9 fl_X9_54 hv hd k
theorem gf_X9_57 {a : Nat} {fs : List Value} {v : Value} (C : xb_C κ Γ nL cc RX9 rm) (q0 : Nat) (he : ws[q0]? = some (a, .inr (9, fs))) (hv : fs[21]? = some v) (hd : decode cc pc = .ok (.getfield 57, 3)) (k : xb_W κ Γ nL cells slots (pc + 3) lv (v :: st) ws) : xb_W κ Γ nL cells slots pc lv (.ref a :: st) ws := x_get C q0 he rfl 21 (by decide) kw_X9 fl_X9_57 hv hd k
theorem gf_X9_60 {a : Nat} {fs : List Value} {v : Value} (C : xb_C κ Γ nL cc RX9 rm) (q0 : Nat) (he : ws[q0]? = some (a, .inr (9, fs))) (hv : fs[22]? = some v) (hd : decode cc pc = .ok (.getfield 60, 3)) (k : xb_W κ Γ nL cells slots (pc + 3) lv (v :: st) ws) : xb_W κ Γ nL cells slots pc lv (.ref a :: st) ws := x_get C q0 he rfl 22 (by decide) kw_X9 fl_X9_60 hv hd k
theorem gf_X9_63 {a : Nat} {fs : List Value} {v : Value} (C : xb_C κ Γ nL cc RX9 rm) (q0 : Nat) (he : ws[q0]? = some (a, .inr (9, fs))) (hv : fs[23]? = some v) (hd : decode cc pc = .ok (.getfield 63, 3)) (k : xb_W κ Γ nL cells slots (pc + 3) lv (v :: st) ws) : xb_W κ Γ nL cells slots pc lv (.ref a :: st) ws := x_get C q0 he rfl 23 (by decide) kw_X9 fl_X9_63 hv hd k
theorem gf_X9_66 {a : Nat} {fs : List Value} {v : Value} (C : xb_C κ Γ nL cc RX9 rm) (q0 : Nat) (he : ws[q0]? = some (a, .inr (9, fs))) (hv : fs[24]? = some v) (hd : decode cc pc = .ok (.getfield 66, 3)) (k : xb_W κ Γ nL cells slots (pc + 3) lv (v :: st) ws) : xb_W κ Γ nL cells slots pc lv (.ref a :: st) ws := x_get C q0 he rfl 24 (by decide) kw_X9 fl_X9_66 hv hd k
theorem gf_X9_211 {a : Nat} {fs : List Value} {v : Value} (C : xb_C κ Γ nL cc RX9 rm) (q0 : Nat) (he : ws[q0]? = some (a, .inr (9, fs))) (hv : fs[25]? = some v) (hd : decode cc pc = .ok (.getfield 211, 3)) (k : xb_W κ Γ nL cells slots (pc + 3) lv (v :: st) ws) : xb_W κ Γ nL cells slots pc lv (.ref a :: st) ws := x_get C q0 he rfl 25 (by decide) kw_X9 fl_X9_211 hv hd k
theorem pf_X9_211 {a : Nat} {fs : List Value} {x : Int32} {ws2 : va_W} (C : xb_C κ Γ nL cc RX9 rm) (q0 : Nat) (he : ws[q0]? = some (a, .inr (9, fs))) (hd : decode cc pc = .ok (.putfield 211, 3)) (h2 : ws.set q0 (a, .inr (9, fs.set 25 (.int x))) = ws2) (hlen : Nat.ble 26 fs.length = true) (k : xb_W κ Γ nL cells slots (pc + 3) lv st ws2) : xb_W κ Γ nL cells slots pc lv (.int x :: .ref a :: st) ws := x_put (ty := .int) tyX9 C q0 he rfl 25 (by decide) kw_X9 tyX9_ok nmX9 fl_X9_211 rfl (by decide +kernel) rfl rfl (Nat.le_of_ble_eq_true hlen) hd h2 k
theorem gf_X9_204 {a : Nat} {fs : List Value} {v : Value} (C : xb_C κ Γ nL cc RX9 rm) (q0 : Nat) (he : ws[q0]? = some (a, .inr (9, fs))) (hv : fs[26]? = some v) (hd : decode cc pc = .ok (.getfield 204, 3)) (k : xb_W κ Γ nL cells slots (pc + 3) lv (v :: st) ws) : xb_W κ Γ nL cells slots pc lv (.ref a :: st) ws := x_get C q0 he rfl 26 (by decide) kw_X9 fl_X9_204 hv hd k
theorem pf_X9_204 {a : Nat} {fs : List Value} {x : Int32} {ws2 : va_W} (C : xb_C κ Γ nL cc RX9 rm) (q0 : Nat) (he : ws[q0]? = some (a, .inr (9, fs))) (hd : decode cc pc = .ok (.putfield 204, 3)) (h2 : ws.set q0 (a, .inr (9, fs.set 26 (.int x))) = ws2) (hlen : Nat.ble 27 fs.length = true) (k : xb_W κ Γ nL cells slots (pc + 3) lv st ws2) : xb_W κ Γ nL cells slots pc lv (.int x :: .ref a :: st) ws := x_put (ty := .int) tyX9 C q0 he rfl 26 (by decide) kw_X9 tyX9_ok nmX9 fl_X9_204 rfl (by decide +kernel) rfl rfl (Nat.le_of_ble_eq_true hlen) hd h2 k
theorem gf_X9_69 {a : Nat} {fs : List Value} {v : Value} (C : xb_C κ Γ nL cc RX9 rm) (q0 : Nat) (he : ws[q0]? = some (a, .inr (9, fs))) (hv : fs[27]? = some v) (hd : decode cc pc = .ok (.getfield 69, 3)) (k : xb_W κ Γ nL cells slots (pc + 3) lv (v :: st) ws) : xb_W κ Γ nL cells slots pc lv (.ref a :: st) ws := x_get C q0 he rfl 27 (by decide) kw_X9 fl_X9_69 hv hd k
theorem gf_X9_72 {a : Nat} {fs : List Value} {v : Value} (C : xb_C κ Γ nL cc RX9 rm) (q0 : Nat) (he : ws[q0]? = some (a, .inr (9, fs))) (hv : fs[28]? = some v) (hd : decode cc pc = .ok (.getfield 72, 3)) (k : xb_W κ Γ nL cells slots (pc + 3) lv (v :: st) ws) : xb_W κ Γ nL cells slots pc lv (.ref a :: st) ws := x_get C q0 he rfl 28 (by decide) kw_X9 fl_X9_72 hv hd k
theorem gf_X9_75 {a : Nat} {fs : List Value} {v : Value} (C : xb_C κ Γ nL cc RX9 rm) (q0 : Nat) (he : ws[q0]? = some (a, .inr (9, fs))) (hv : fs[29]? = some v) (hd : decode cc pc = .ok (.getfield 75, 3)) (k : xb_W κ Γ nL cells slots (pc + 3) lv (v :: st) ws) : xb_W κ Γ nL cells slots pc lv (.ref a :: st) ws := x_get C q0 he rfl 29 (by decide) kw_X9 fl_X9_75 hv hd k
theorem gf_X9_78 {a : Nat} {fs : List Value} {v : Value} (C : xb_C κ Γ nL cc RX9 rm) (q0 : Nat) (he : ws[q0]? = some (a, .inr (9, fs))) (hv : fs[30]? = some v) (hd : decode cc pc = .ok (.getfield 78, 3)) (k : xb_W κ Γ nL cells slots (pc + 3) lv (v :: st) ws) : xb_W κ Γ nL cells slots pc lv (.ref a :: st) ws := x_get C q0 he rfl 30 (by decide) kw_X9 fl_X9_78 hv hd k
theorem gf_X9_81 {a : Nat} {fs : List Value} {v : Value} (C : xb_C κ Γ nL cc RX9 rm) (q0 : Nat) (he : ws[q0]? = some (a, .inr (9, fs))) (hv : fs[31]? = some v) (hd : decode cc pc = .ok (.getfield 81, 3)) (k : xb_W κ Γ nL cells slots (pc + 3) lv (v :: st) ws) : xb_W κ Γ nL cells slots pc lv (.ref a :: st) ws := x_get C q0 he rfl 31 (by decide) kw_X9 fl_X9_81 hv hd k
theorem gf_X9_84 {a : Nat} {fs : List Value} {v : Value} (C : xb_C κ Γ nL cc RX9 rm) (q0 : Nat) (he : ws[q0]? = some (a, .inr (9, fs))) (hv : fs[32]? = some v) (hd : decode cc pc = .ok (.getfield 84, 3)) (k : xb_W κ Γ nL cells slots (pc + 3) lv (v :: st) ws) : xb_W κ Γ nL cells slots pc lv (.ref a :: st) ws := x_get C q0 he rfl 32 (by decide) kw_X9 fl_X9_84 hv hd k
theorem gf_X9_87 {a : Nat} {fs : List Value} {v : Value} (C : xb_C κ Γ nL cc RX9 rm) (q0 : Nat) (he : ws[q0]? = some (a, .inr (9, fs))) (hv : fs[33]? = some v) (hd : decode cc pc = .ok (.getfield 87, 3)) (k : xb_W κ Γ nL cells slots (pc + 3) lv (v :: st) ws) : xb_W κ Γ nL cells slots pc lv (.ref a :: st) ws := x_get C q0 he rfl 33 (by decide) kw_X9 fl_X9_87 hv hd k
theorem gf_X9_90 {a : Nat} {fs : List Value} {v : Value} (C : xb_C κ Γ nL cc RX9 rm) (q0 : Nat) (he : ws[q0]? = some (a, .inr (9, fs))) (hv : fs[34]? = some v) (hd : decode cc pc = .ok (.getfield 90, 3)) (k : xb_W κ Γ nL cells slots (pc + 3) lv (v :: st) ws) : xb_W κ Γ nL cells slots pc lv (.ref a :: st) ws := x_get C q0 he rfl 34 (by decide) kw_X9 fl_X9_90 hv hd k
end
def el (len : Nat) (f : Nat → Int32) (i : Int32) : Int32 := if i < 0 then 0 else if nI len ≤ i then 0 else f i.toNatClampNeg
def fl (len : Nat) (f : Nat → Int32) (v : Int32) : Nat → Int32 := fun k => if k < len then v else f k
def xb_gL : Nat → Int32 := fun j => if j = 2 then 1 else 0
def xb_gM : Nat → Int32 := fun j => if j = 0 then 7 else if j = 1 then 5 else 9
theorem el_in {len : Nat} {i : Int32} (h1 : ¬ i < 0) (h2 : ¬ nI len ≤ i) (hl : len < 2 ^ 31) : vp_in i len := by
  rw [vp_in_iff]
  rw [Int32.lt_iff_toInt_lt, Int32.toInt_zero] at h1
  rw [Int32.le_iff_toInt_le, nI_toInt hl] at h2
  omega
theorem xm_X8_init : xm_I yX8_init RX8 cX8_init 3 none 1 := ⟨ki_X8_init, kn_X8, kc_X8_init, by decide +kernel⟩
theorem xm_J9_min_7cf53 : xm_S yJ9_min_7cf53 RJ9 cJ9_min_7cf53 2 (some .int) 2 := ⟨kt_J9_min_7cf53, kn_J9, kc_J9_min_7cf53, by decide +kernel⟩
theorem xm_J9_max_7cf53 : xm_S yJ9_max_7cf53 RJ9 cJ9_max_7cf53 2 (some .int) 2 := ⟨kt_J9_max_7cf53, kn_J9, kc_J9_max_7cf53, by decide +kernel⟩
theorem xm_X4_init : xm_I yX4_init RX4 cX4_init 2 none 1 := ⟨ki_X4_init, kn_X4, kc_X4_init, by decide +kernel⟩
theorem xm_X5_init : xm_I yX5_init RX5 cX5_init 1 none 0 := ⟨ki_X5_init, kn_X5, kc_X5_init, by decide +kernel⟩
theorem xm_X6_init : xm_I yX6_init RX6 cX6_init 1 none 0 := ⟨ki_X6_init, kn_X6, kc_X6_init, by decide +kernel⟩
theorem xm_X1_init : xm_I yX1_init RX1 cX1_init 2 none 1 := ⟨ki_X1_init, kn_X1, kc_X1_init, by decide +kernel⟩
theorem xm_X0_init : xm_I yX0_init RX0 cX0_init 3 none 1 := ⟨ki_X0_init, kn_X0, kc_X0_init, by decide +kernel⟩
theorem xm_X2_init : xm_I yX2_init RX2 cX2_init 2 none 1 := ⟨ki_X2_init, kn_X2, kc_X2_init, by decide +kernel⟩
theorem xm_X3_init : xm_I yX3_init RX3 cX3_init 2 none 1 := ⟨ki_X3_init, kn_X3, kc_X3_init, by decide +kernel⟩
theorem xm_X7_init : xm_I yX7_init RX7 cX7_init 2 none 1 := ⟨ki_X7_init, kn_X7, kc_X7_init, by decide +kernel⟩
theorem xm_X8_pair : xm_V yX8_pair RX8 cX8_pair 3 (some .int) 2 := ⟨ki_X8_pair, ks_X8_pair, kn_X8, kc_X8_pair, by decide +kernel⟩
theorem xm_X8_change : xm_V yX8_change RX8 cX8_change 5 (some .int) 3 := ⟨ki_X8_change, ks_X8_change, kn_X8, kc_X8_change, by decide +kernel⟩
theorem xm_X4_isThing : xm_V yX4_isThing RX4 cX4_isThing 2 (some .boolean) 1 := ⟨ki_X4_isThing, ks_X4_isThing, kn_X4, kc_X4_isThing, by decide +kernel⟩
theorem xm_X4_joined : xm_V yX4_joined RX4 cX4_joined 3 (some .boolean) 2 := ⟨ki_X4_joined, ks_X4_joined, kn_X4, kc_X4_joined, by decide +kernel⟩
theorem xm_X4_rowOf : xm_V yX4_rowOf RX4 cX4_rowOf 2 (some .long) 1 := ⟨ki_X4_rowOf, ks_X4_rowOf, kn_X4, kc_X4_rowOf, by decide +kernel⟩
theorem xm_X8_isIn : xm_S yX8_isIn RX8 cX8_isIn 3 (some .boolean) 2 := ⟨kt_X8_isIn, kn_X8, kc_X8_isIn, by decide +kernel⟩
theorem xm_X1_isThere : xm_V yX1_isThere RX1 cX1_isThere 1 (some .boolean) 0 := ⟨ki_X1_isThere, ks_X1_isThere, kn_X1, kc_X1_isThere, by decide +kernel⟩
theorem xm_X1_isPatch : xm_V yX1_isPatch RX1 cX1_isPatch 4 (some .boolean) 3 := ⟨ki_X1_isPatch, ks_X1_isPatch, kn_X1, kc_X1_isPatch, by decide +kernel⟩
theorem xm_X1_patchesTo : xm_V yX1_patchesTo RX1 cX1_patchesTo 2 (some .int) 1 := ⟨ki_X1_patchesTo, ks_X1_patchesTo, kn_X1, kc_X1_patchesTo, by decide +kernel⟩
theorem xm_X4_countOther : xm_V yX4_countOther RX4 cX4_countOther 4 (some .int) 1 := ⟨ki_X4_countOther, ks_X4_countOther, kn_X4, kc_X4_countOther, by decide +kernel⟩
theorem xm_J13_bitCount_95d88 : xm_S yJ13_bitCount_95d88 RJ13 cJ13_bitCount_95d88 2 (some .int) 1 := ⟨kt_J13_bitCount_95d88, kn_J13, kc_J13_bitCount_95d88, by decide +kernel⟩
theorem xm_X4_flip : xm_V yX4_flip RX4 cX4_flip 3 none 2 := ⟨ki_X4_flip, ks_X4_flip, kn_X4, kc_X4_flip, by decide +kernel⟩
theorem xm_X8_drop : xm_V yX8_drop RX8 cX8_drop 3 (some .int) 2 := ⟨ki_X8_drop, ks_X8_drop, kn_X8, kc_X8_drop, by decide +kernel⟩
theorem xm_X8_has : xm_V yX8_has RX8 cX8_has 3 (some .int) 2 := ⟨ki_X8_has, ks_X8_has, kn_X8, kc_X8_has, by decide +kernel⟩
theorem xm_X8_next : xm_V yX8_next RX8 cX8_next 3 (some .int) 2 := ⟨ki_X8_next, ks_X8_next, kn_X8, kc_X8_next, by decide +kernel⟩
theorem xm_X8_firstFrom : xm_S yX8_firstFrom RX8 cX8_firstFrom 4 (some .int) 2 := ⟨kt_X8_firstFrom, kn_X8, kc_X8_firstFrom, by decide +kernel⟩
theorem xm_X8_degree : xm_V yX8_degree RX8 cX8_degree 3 (some .int) 2 := ⟨ki_X8_degree, ks_X8_degree, kn_X8, kc_X8_degree, by decide +kernel⟩
theorem xm_X8_isBelow : xm_S yX8_isBelow RX8 cX8_isBelow 2 (some .boolean) 2 := ⟨kt_X8_isBelow, kn_X8, kc_X8_isBelow, by decide +kernel⟩
theorem xm_X4_columnOf : xm_V yX4_columnOf RX4 cX4_columnOf 5 (some .long) 1 := ⟨ki_X4_columnOf, ks_X4_columnOf, kn_X4, kc_X4_columnOf, by decide +kernel⟩
theorem xm_X8_meet : xm_V yX8_meet RX8 cX8_meet 3 (some .int) 2 := ⟨ki_X8_meet, ks_X8_meet, kn_X8, kc_X8_meet, by decide +kernel⟩
theorem xm_X8_back : xm_V yX8_back RX8 cX8_back 3 (some .int) 2 := ⟨ki_X8_back, ks_X8_back, kn_X8, kc_X8_back, by decide +kernel⟩
theorem xm_X8_thingAt : xm_S yX8_thingAt RX8 cX8_thingAt 5 (some .int) 2 := ⟨kt_X8_thingAt, kn_X8, kc_X8_thingAt, by decide +kernel⟩
theorem xm_X8_form : xm_V yX8_form RX8 cX8_form 4 (some .int) 2 := ⟨ki_X8_form, ks_X8_form, kn_X8, kc_X8_form, by decide +kernel⟩
theorem xm_X5_formOf : xm_V yX5_formOf RX5 cX5_formOf 2 (some .int) 1 := ⟨ki_X5_formOf, ks_X5_formOf, kn_X5, kc_X5_formOf, by decide +kernel⟩
theorem xm_X8_element : xm_S yX8_element RX8 cX8_element 2 (some .int) 2 := ⟨kt_X8_element, kn_X8, kc_X8_element, by decide +kernel⟩
theorem xm_X5_setForm : xm_V yX5_setForm RX5 cX5_setForm 3 none 2 := ⟨ki_X5_setForm, ks_X5_setForm, kn_X5, kc_X5_setForm, by decide +kernel⟩
theorem xm_X8_setting : xm_V yX8_setting RX8 cX8_setting 4 (some .int) 2 := ⟨ki_X8_setting, ks_X8_setting, kn_X8, kc_X8_setting, by decide +kernel⟩
theorem xm_X5_allows : xm_V yX5_allows RX5 cX5_allows 3 (some .boolean) 2 := ⟨ki_X5_allows, ks_X5_allows, kn_X5, kc_X5_allows, by decide +kernel⟩
theorem xm_X5_valueOf : xm_V yX5_valueOf RX5 cX5_valueOf 2 (some .int) 1 := ⟨ki_X5_valueOf, ks_X5_valueOf, kn_X5, kc_X5_valueOf, by decide +kernel⟩
theorem xm_X5_setValue : xm_V yX5_setValue RX5 cX5_setValue 3 none 2 := ⟨ki_X5_setValue, ks_X5_setValue, kn_X5, kc_X5_setValue, by decide +kernel⟩
theorem xm_X8_length : xm_V yX8_length RX8 cX8_length 3 (some .int) 2 := ⟨ki_X8_length, ks_X8_length, kn_X8, kc_X8_length, by decide +kernel⟩
theorem xm_X8_bitsIn : xm_S yX8_bitsIn RX8 cX8_bitsIn 4 (some .int) 2 := ⟨kt_X8_bitsIn, kn_X8, kc_X8_bitsIn, by decide +kernel⟩
theorem xm_X8_digitsOf : xm_S yX8_digitsOf RX8 cX8_digitsOf 2 (some .int) 1 := ⟨kt_X8_digitsOf, kn_X8, kc_X8_digitsOf, by decide +kernel⟩
theorem xm_X8_cost : xm_V yX8_cost RX8 cX8_cost 5 (some .int) 3 := ⟨ki_X8_cost, ks_X8_cost, kn_X8, kc_X8_cost, by decide +kernel⟩
theorem xm_X8_isCopy : xm_S yX8_isCopy RX8 cX8_isCopy 1 (some .boolean) 1 := ⟨kt_X8_isCopy, kn_X8, kc_X8_isCopy, by decide +kernel⟩
theorem xm_X6_bitsToTell : xm_V yX6_bitsToTell RX6 cX6_bitsToTell 9 (some .int) 5 := ⟨ki_X6_bitsToTell, ks_X6_bitsToTell, kn_X6, kc_X6_bitsToTell, by decide +kernel⟩
theorem xm_X6_tell : xm_V yX6_tell RX6 cX6_tell 9 (some .boolean) 4 := ⟨ki_X6_tell, ks_X6_tell, kn_X6, kc_X6_tell, by decide +kernel⟩
theorem xm_X6_add : xm_V yX6_add RX6 cX6_add 3 none 2 := ⟨ki_X6_add, ks_X6_add, kn_X6, kc_X6_add, by decide +kernel⟩
theorem xm_X6_tellPlain : xm_V yX6_tellPlain RX6 cX6_tellPlain 6 none 2 := ⟨ki_X6_tellPlain, ks_X6_tellPlain, kn_X6, kc_X6_tellPlain, by decide +kernel⟩
theorem xm_X8_folded : xm_S yX8_folded RX8 cX8_folded 1 (some .int) 1 := ⟨kt_X8_folded, kn_X8, kc_X8_folded, by decide +kernel⟩
theorem xm_X6_tellSpans : xm_V yX6_tellSpans RX6 cX6_tellSpans 15 (some .long) 2 := ⟨ki_X6_tellSpans, ks_X6_tellSpans, kn_X6, kc_X6_tellSpans, by decide +kernel⟩
theorem xm_X6_tellBlocks : xm_V yX6_tellBlocks RX6 cX6_tellBlocks 10 none 2 := ⟨ki_X6_tellBlocks, ks_X6_tellBlocks, kn_X6, kc_X6_tellBlocks, by decide +kernel⟩
theorem xm_X6_tellDense : xm_V yX6_tellDense RX6 cX6_tellDense 7 none 2 := ⟨ki_X6_tellDense, ks_X6_tellDense, kn_X6, kc_X6_tellDense, by decide +kernel⟩
theorem xm_X8_lastOf : xm_S yX8_lastOf RX8 cX8_lastOf 3 (some .int) 1 := ⟨kt_X8_lastOf, kn_X8, kc_X8_lastOf, by decide +kernel⟩
theorem xm_X6_useAt : xm_V yX6_useAt RX6 cX6_useAt 2 (some .int) 1 := ⟨ki_X6_useAt, ks_X6_useAt, kn_X6, kc_X6_useAt, by decide +kernel⟩
theorem xm_X6_numberAt : xm_V yX6_numberAt RX6 cX6_numberAt 2 (some .int) 1 := ⟨ki_X6_numberAt, ks_X6_numberAt, kn_X6, kc_X6_numberAt, by decide +kernel⟩
theorem xm_X8_pack : xm_V yX8_pack RX8 cX8_pack 1 (some .int) 0 := ⟨ki_X8_pack, ks_X8_pack, kn_X8, kc_X8_pack, by decide +kernel⟩
theorem xm_X1_decideAll : xm_V yX1_decideAll RX1 cX1_decideAll 5 none 3 := ⟨ki_X1_decideAll, ks_X1_decideAll, kn_X1, kc_X1_decideAll, by decide +kernel⟩
theorem xm_X4_takeAllOf : xm_V yX4_takeAllOf RX4 cX4_takeAllOf 3 none 1 := ⟨ki_X4_takeAllOf, ks_X4_takeAllOf, kn_X4, kc_X4_takeAllOf, by decide +kernel⟩
theorem xm_J7_fill_53178 : xm_S yJ7_fill_53178 RJ7 cJ7_fill_53178 4 none 2 := ⟨kt_J7_fill_53178, kn_J7, kc_J7_fill_53178, by decide +kernel⟩
theorem xm_X1_choose : xm_V yX1_choose RX1 cX1_choose 11 none 3 := ⟨ki_X1_choose, ks_X1_choose, kn_X1, kc_X1_choose, by decide +kernel⟩
theorem xm_X1_depthOf : xm_V yX1_depthOf RX1 cX1_depthOf 2 (some .int) 1 := ⟨ki_X1_depthOf, ks_X1_depthOf, kn_X1, kc_X1_depthOf, by decide +kernel⟩
theorem xm_X1_decide : xm_V yX1_decide RX1 cX1_decide 4 none 3 := ⟨ki_X1_decide, ks_X1_decide, kn_X1, kc_X1_decide, by decide +kernel⟩
theorem xm_X1_kindOf : xm_V yX1_kindOf RX1 cX1_kindOf 2 (some .int) 1 := ⟨ki_X1_kindOf, ks_X1_kindOf, kn_X1, kc_X1_kindOf, by decide +kernel⟩
theorem xm_X1_distanceOf : xm_V yX1_distanceOf RX1 cX1_distanceOf 2 (some .int) 1 := ⟨ki_X1_distanceOf, ks_X1_distanceOf, kn_X1, kc_X1_distanceOf, by decide +kernel⟩
theorem xm_X1_tallyNumbers : xm_V yX1_tallyNumbers RX1 cX1_tallyNumbers 4 none 1 := ⟨ki_X1_tallyNumbers, ks_X1_tallyNumbers, kn_X1, kc_X1_tallyNumbers, by decide +kernel⟩
theorem xm_X6_size : xm_V yX6_size RX6 cX6_size 1 (some .int) 0 := ⟨ki_X6_size, ks_X6_size, kn_X6, kc_X6_size, by decide +kernel⟩
theorem xm_X1_writeAnew : xm_V yX1_writeAnew RX1 cX1_writeAnew 4 (some .int) 2 := ⟨ki_X1_writeAnew, ks_X1_writeAnew, kn_X1, kc_X1_writeAnew, by decide +kernel⟩
theorem xm_X0_clear : xm_V yX0_clear RX0 cX0_clear 1 none 0 := ⟨ki_X0_clear, ks_X0_clear, kn_X0, kc_X0_clear, by decide +kernel⟩
theorem xm_X0_size : xm_V yX0_size RX0 cX0_size 1 (some .int) 0 := ⟨ki_X0_size, ks_X0_size, kn_X0, kc_X0_size, by decide +kernel⟩
theorem xm_X0_write : xm_V yX0_write RX0 cX0_write 5 none 2 := ⟨ki_X0_write, ks_X0_write, kn_X0, kc_X0_write, by decide +kernel⟩
theorem xm_X0_put : xm_V yX0_put RX0 cX0_put 4 none 1 := ⟨ki_X0_put, ks_X0_put, kn_X0, kc_X0_put, by decide +kernel⟩
theorem xm_X0_putNumber : xm_V yX0_putNumber RX0 cX0_putNumber 5 none 2 := ⟨ki_X0_putNumber, ks_X0_putNumber, kn_X0, kc_X0_putNumber, by decide +kernel⟩
theorem xm_X0_putUnary : xm_V yX0_putUnary RX0 cX0_putUnary 3 none 1 := ⟨ki_X0_putUnary, ks_X0_putUnary, kn_X0, kc_X0_putUnary, by decide +kernel⟩
theorem xm_X0_putDoubled : xm_V yX0_putDoubled RX0 cX0_putDoubled 4 none 1 := ⟨ki_X0_putDoubled, ks_X0_putDoubled, kn_X0, kc_X0_putDoubled, by decide +kernel⟩
theorem xm_X0_putLowest : xm_V yX0_putLowest RX0 cX0_putLowest 4 none 2 := ⟨ki_X0_putLowest, ks_X0_putLowest, kn_X0, kc_X0_putLowest, by decide +kernel⟩
theorem xm_X8_told : xm_V yX8_told RX8 cX8_told 3 (some .int) 2 := ⟨ki_X8_told, ks_X8_told, kn_X8, kc_X8_told, by decide +kernel⟩
theorem xm_X1_startOf : xm_V yX1_startOf RX1 cX1_startOf 2 (some .int) 1 := ⟨ki_X1_startOf, ks_X1_startOf, kn_X1, kc_X1_startOf, by decide +kernel⟩
theorem xm_X8_looked : xm_V yX8_looked RX8 cX8_looked 2 (some .int) 1 := ⟨ki_X8_looked, ks_X8_looked, kn_X8, kc_X8_looked, by decide +kernel⟩
theorem xm_X1_bitsToRead : xm_V yX1_bitsToRead RX1 cX1_bitsToRead 5 (some .int) 1 := ⟨ki_X1_bitsToRead, ks_X1_bitsToRead, kn_X1, kc_X1_bitsToRead, by decide +kernel⟩
theorem xm_J9_floorMod_7cf53 : xm_S yJ9_floorMod_7cf53 RJ9 cJ9_floorMod_7cf53 3 (some .int) 2 := ⟨kt_J9_floorMod_7cf53, kn_J9, kc_J9_floorMod_7cf53, by decide +kernel⟩
theorem xm_X8_would : xm_V yX8_would RX8 cX8_would 3 (some .int) 2 := ⟨ki_X8_would, ks_X8_would, kn_X8, kc_X8_would, by decide +kernel⟩
theorem xm_X1_bitsOfUse : xm_V yX1_bitsOfUse RX1 cX1_bitsOfUse 5 (some .int) 2 := ⟨ki_X1_bitsOfUse, ks_X1_bitsOfUse, kn_X1, kc_X1_bitsOfUse, by decide +kernel⟩
theorem xm_X8_forms : xm_V yX8_forms RX8 cX8_forms 2 (some .int) 0 := ⟨ki_X8_forms, ks_X8_forms, kn_X8, kc_X8_forms, by decide +kernel⟩
theorem xm_X1_cheapestForm : xm_V yX1_cheapestForm RX1 cX1_cheapestForm 4 (some .int) 1 := ⟨ki_X1_cheapestForm, ks_X1_cheapestForm, kn_X1, kc_X1_cheapestForm, by decide +kernel⟩
theorem xm_X8_best : xm_V yX8_best RX8 cX8_best 1 (some .int) 0 := ⟨ki_X8_best, ks_X8_best, kn_X8, kc_X8_best, by decide +kernel⟩
theorem xm_X2_leastSum : xm_V yX2_leastSum RX2 cX2_leastSum 8 (some .int) 3 := ⟨ki_X2_leastSum, ks_X2_leastSum, kn_X2, kc_X2_leastSum, by decide +kernel⟩
theorem xm_X2_bitsAlone : xm_S yX2_bitsAlone RX2 cX2_bitsAlone 6 (some .int) 4 := ⟨kt_X2_bitsAlone, kn_X2, kc_X2_bitsAlone, by decide +kernel⟩
theorem xm_X2_belowOf : xm_V yX2_belowOf RX2 cX2_belowOf 3 (some .int) 2 := ⟨ki_X2_belowOf, ks_X2_belowOf, kn_X2, kc_X2_belowOf, by decide +kernel⟩
theorem xm_X2_findCopy : xm_V yX2_findCopy RX2 cX2_findCopy 9 none 4 := ⟨ki_X2_findCopy, ks_X2_findCopy, kn_X2, kc_X2_findCopy, by decide +kernel⟩
theorem xm_X2_hang : xm_V yX2_hang RX2 cX2_hang 7 none 3 := ⟨ki_X2_hang, ks_X2_hang, kn_X2, kc_X2_hang, by decide +kernel⟩
theorem xm_X8_bit : xm_V yX8_bit RX8 cX8_bit 2 (some .int) 1 := ⟨ki_X8_bit, ks_X8_bit, kn_X8, kc_X8_bit, by decide +kernel⟩
theorem xm_X1_bits : xm_V yX1_bits RX1 cX1_bits 1 (some (.object "NeighbourBook$Bits")) 0 := ⟨ki_X1_bits, ks_X1_bits, kn_X1, kc_X1_bits, by decide +kernel⟩
theorem xm_X0_bitNow : xm_V yX0_bitNow RX0 cX0_bitNow 2 (some .int) 1 := ⟨ki_X0_bitNow, ks_X0_bitNow, kn_X0, kc_X0_bitNow, by decide +kernel⟩
theorem xm_X0_bitOf : xm_S yX0_bitOf RX0 cX0_bitOf 2 (some .int) 2 := ⟨kt_X0_bitOf, kn_X0, kc_X0_bitOf, by decide +kernel⟩
theorem xm_X8_place : xm_V yX8_place RX8 cX8_place 2 (some .int) 1 := ⟨ki_X8_place, ks_X8_place, kn_X8, kc_X8_place, by decide +kernel⟩
theorem xm_X1_placeCount : xm_V yX1_placeCount RX1 cX1_placeCount 1 (some .int) 0 := ⟨ki_X1_placeCount, ks_X1_placeCount, kn_X1, kc_X1_placeCount, by decide +kernel⟩
theorem xm_X1_placeStart : xm_V yX1_placeStart RX1 cX1_placeStart 2 (some .int) 1 := ⟨ki_X1_placeStart, ks_X1_placeStart, kn_X1, kc_X1_placeStart, by decide +kernel⟩
theorem xm_X8_sum : xm_V yX8_sum RX8 cX8_sum 1 (some .long) 0 := ⟨ki_X8_sum, ks_X8_sum, kn_X8, kc_X8_sum, by decide +kernel⟩
theorem xm_X0_hash : xm_V yX0_hash RX0 cX0_hash 4 (some .long) 0 := ⟨ki_X0_hash, ks_X0_hash, kn_X0, kc_X0_hash, by decide +kernel⟩
theorem xm_X0_byteCount : xm_V yX0_byteCount RX0 cX0_byteCount 1 (some .int) 0 := ⟨ki_X0_byteCount, ks_X0_byteCount, kn_X0, kc_X0_byteCount, by decide +kernel⟩
theorem xm_X8_alter : xm_V yX8_alter RX8 cX8_alter 3 (some .int) 2 := ⟨ki_X8_alter, ks_X8_alter, kn_X8, kc_X8_alter, by decide +kernel⟩
theorem xm_X0_turn : xm_V yX0_turn RX0 cX0_turn 3 (some .int) 2 := ⟨ki_X0_turn, ks_X0_turn, kn_X0, kc_X0_turn, by decide +kernel⟩
theorem xm_X8_judge : xm_V yX8_judge RX8 cX8_judge 1 (some .int) 0 := ⟨ki_X8_judge, ks_X8_judge, kn_X8, kc_X8_judge, by decide +kernel⟩
theorem xm_X1_firstSpoiled : xm_V yX1_firstSpoiled RX1 cX1_firstSpoiled 3 (some .int) 0 := ⟨ki_X1_firstSpoiled, ks_X1_firstSpoiled, kn_X1, kc_X1_firstSpoiled, by decide +kernel⟩
theorem xm_X0_firstTurned : xm_V yX0_firstTurned RX0 cX0_firstTurned 2 (some .int) 0 := ⟨ki_X0_firstTurned, ks_X0_firstTurned, kn_X0, kc_X0_firstTurned, by decide +kernel⟩
theorem xm_X8_order : xm_V yX8_order RX8 cX8_order 3 (some .int) 2 := ⟨ki_X8_order, ks_X8_order, kn_X8, kc_X8_order, by decide +kernel⟩
theorem xm_X3_arrange : xm_V yX3_arrange RX3 cX3_arrange 6 none 2 := ⟨ki_X3_arrange, ks_X3_arrange, kn_X3, kc_X3_arrange, by decide +kernel⟩
theorem xm_X3_layLayers : xm_V yX3_layLayers RX3 cX3_layLayers 9 none 1 := ⟨ki_X3_layLayers, ks_X3_layLayers, kn_X3, kc_X3_layLayers, by decide +kernel⟩
theorem xm_X3_leastKey : xm_S yX3_leastKey RX3 cX3_leastKey 4 (some .int) 1 := ⟨kt_X3_leastKey, kn_X3, kc_X3_leastKey, by decide +kernel⟩
theorem xm_X3_layByKeys : xm_V yX3_layByKeys RX3 cX3_layByKeys 3 none 0 := ⟨ki_X3_layByKeys, ks_X3_layByKeys, kn_X3, kc_X3_layByKeys, by decide +kernel⟩
theorem xm_X3_thingAtPlace : xm_V yX3_thingAtPlace RX3 cX3_thingAtPlace 2 (some .int) 1 := ⟨ki_X3_thingAtPlace, ks_X3_thingAtPlace, kn_X3, kc_X3_thingAtPlace, by decide +kernel⟩
theorem xm_X8_renumber : xm_V yX8_renumber RX8 cX8_renumber 2 (some .int) 1 := ⟨ki_X8_renumber, ks_X8_renumber, kn_X8, kc_X8_renumber, by decide +kernel⟩
theorem xm_X4_renumberBy : xm_V yX4_renumberBy RX4 cX4_renumberBy 8 none 1 := ⟨ki_X4_renumberBy, ks_X4_renumberBy, kn_X4, kc_X4_renumberBy, by decide +kernel⟩
theorem xm_X1_forget : xm_V yX1_forget RX1 cX1_forget 1 none 0 := ⟨ki_X1_forget, ks_X1_forget, kn_X1, kc_X1_forget, by decide +kernel⟩
theorem xm_X4_countToLesser : xm_V yX4_countToLesser RX4 cX4_countToLesser 3 (some .int) 0 := ⟨ki_X4_countToLesser, ks_X4_countToLesser, kn_X4, kc_X4_countToLesser, by decide +kernel⟩
theorem xm_X8_threes : xm_V yX8_threes RX8 cX8_threes 1 (some .int) 0 := ⟨ki_X8_threes, ks_X8_threes, kn_X8, kc_X8_threes, by decide +kernel⟩
theorem xm_X7_countThrees : xm_V yX7_countThrees RX7 cX7_countThrees 7 (some .int) 1 := ⟨ki_X7_countThrees, ks_X7_countThrees, kn_X7, kc_X7_countThrees, by decide +kernel⟩
theorem xm_X7_findNear : xm_V yX7_findNear RX7 cX7_findNear 3 none 1 := ⟨ki_X7_findNear, ks_X7_findNear, kn_X7, kc_X7_findNear, by decide +kernel⟩
theorem xm_X8_parts : xm_V yX8_parts RX8 cX8_parts 2 (some .int) 1 := ⟨ki_X8_parts, ks_X8_parts, kn_X8, kc_X8_parts, by decide +kernel⟩
theorem xm_X7_countParts : xm_V yX7_countParts RX7 cX7_countParts 6 (some .int) 1 := ⟨ki_X7_countParts, ks_X7_countParts, kn_X7, kc_X7_countParts, by decide +kernel⟩
theorem xm_X7_partOf : xm_V yX7_partOf RX7 cX7_partOf 8 (some .long) 1 := ⟨ki_X7_partOf, ks_X7_partOf, kn_X7, kc_X7_partOf, by decide +kernel⟩
theorem xm_X7_sizeOfPart : xm_V yX7_sizeOfPart RX7 cX7_sizeOfPart 3 (some .int) 2 := ⟨ki_X7_sizeOfPart, ks_X7_sizeOfPart, kn_X7, kc_X7_sizeOfPart, by decide +kernel⟩
theorem xm_X8_far : xm_V yX8_far RX8 cX8_far 3 (some .int) 2 := ⟨ki_X8_far, ks_X8_far, kn_X8, kc_X8_far, by decide +kernel⟩
theorem xm_X7_stepsBetween : xm_V yX7_stepsBetween RX7 cX7_stepsBetween 10 (some .int) 3 := ⟨ki_X7_stepsBetween, ks_X7_stepsBetween, kn_X7, kc_X7_stepsBetween, by decide +kernel⟩
theorem xm_X4_things : xm_V yX4_things RX4 cX4_things 1 (some .int) 0 := ⟨ki_X4_things, ks_X4_things, kn_X4, kc_X4_things, by decide +kernel⟩
theorem xm_X8_count : xm_V yX8_count RX8 cX8_count 2 (some .int) 1 := ⟨ki_X8_count, ks_X8_count, kn_X8, kc_X8_count, by decide +kernel⟩
theorem xm_X4_countAll : xm_V yX4_countAll RX4 cX4_countAll 3 (some .int) 0 := ⟨ki_X4_countAll, ks_X4_countAll, kn_X4, kc_X4_countAll, by decide +kernel⟩
theorem xm_X1_copiedRows : xm_V yX1_copiedRows RX1 cX1_copiedRows 3 (some .int) 0 := ⟨ki_X1_copiedRows, ks_X1_copiedRows, kn_X1, kc_X1_copiedRows, by decide +kernel⟩
theorem xm_X1_greatestDepth : xm_V yX1_greatestDepth RX1 cX1_greatestDepth 3 (some .int) 0 := ⟨ki_X1_greatestDepth, ks_X1_greatestDepth, kn_X1, kc_X1_greatestDepth, by decide +kernel⟩
theorem xm_X9_init : xm_I yX9_init RX9 cX9_init 3 none 1 := ⟨ki_X9_init, kn_X9, kc_X9_init, by decide +kernel⟩
theorem xm_X9_pair : xm_V yX9_pair RX9 cX9_pair 3 (some .int) 2 := ⟨ki_X9_pair, ks_X9_pair, kn_X9, kc_X9_pair, by decide +kernel⟩
theorem xm_X9_isThing : xm_V yX9_isThing RX9 cX9_isThing 2 (some .boolean) 1 := ⟨ki_X9_isThing, ks_X9_isThing, kn_X9, kc_X9_isThing, by decide +kernel⟩
theorem xm_X9_in : xm_S yX9_in RX9 cX9_in 6 (some .boolean) 3 := ⟨kt_X9_in, kn_X9, kc_X9_in, by decide +kernel⟩
theorem xm_X9_turn : xm_V yX9_turn RX9 cX9_turn 6 (some .int) 3 := ⟨ki_X9_turn, ks_X9_turn, kn_X9, kc_X9_turn, by decide +kernel⟩
theorem xm_X9_drop : xm_V yX9_drop RX9 cX9_drop 3 (some .int) 2 := ⟨ki_X9_drop, ks_X9_drop, kn_X9, kc_X9_drop, by decide +kernel⟩
theorem xm_X9_has : xm_V yX9_has RX9 cX9_has 3 (some .int) 2 := ⟨ki_X9_has, ks_X9_has, kn_X9, kc_X9_has, by decide +kernel⟩
theorem xm_X9_next : xm_V yX9_next RX9 cX9_next 4 (some .int) 2 := ⟨ki_X9_next, ks_X9_next, kn_X9, kc_X9_next, by decide +kernel⟩
theorem xm_X9_degree : xm_V yX9_degree RX9 cX9_degree 5 (some .int) 2 := ⟨ki_X9_degree, ks_X9_degree, kn_X9, kc_X9_degree, by decide +kernel⟩
theorem xm_X9_rowSize : xm_V yX9_rowSize RX9 cX9_rowSize 4 (some .int) 1 := ⟨ki_X9_rowSize, ks_X9_rowSize, kn_X9, kc_X9_rowSize, by decide +kernel⟩
theorem xm_X9_meet : xm_V yX9_meet RX9 cX9_meet 5 (some .int) 2 := ⟨ki_X9_meet, ks_X9_meet, kn_X9, kc_X9_meet, by decide +kernel⟩
theorem xm_X9_back : xm_V yX9_back RX9 cX9_back 5 (some .int) 2 := ⟨ki_X9_back, ks_X9_back, kn_X9, kc_X9_back, by decide +kernel⟩
theorem xm_X9_form : xm_V yX9_form RX9 cX9_form 4 (some .int) 2 := ⟨ki_X9_form, ks_X9_form, kn_X9, kc_X9_form, by decide +kernel⟩
theorem xm_X9_setting : xm_V yX9_setting RX9 cX9_setting 4 (some .int) 2 := ⟨ki_X9_setting, ks_X9_setting, kn_X9, kc_X9_setting, by decide +kernel⟩
theorem xm_X9_length : xm_V yX9_length RX9 cX9_length 3 (some .int) 2 := ⟨ki_X9_length, ks_X9_length, kn_X9, kc_X9_length, by decide +kernel⟩
theorem xm_X9_lengthIn : xm_S yX9_lengthIn RX9 cX9_lengthIn 3 (some .int) 2 := ⟨kt_X9_lengthIn, kn_X9, kc_X9_lengthIn, by decide +kernel⟩
theorem xm_X9_bitsOf : xm_S yX9_bitsOf RX9 cX9_bitsOf 3 (some .int) 1 := ⟨kt_X9_bitsOf, kn_X9, kc_X9_bitsOf, by decide +kernel⟩
theorem xm_X9_cost : xm_V yX9_cost RX9 cX9_cost 5 (some .int) 3 := ⟨ki_X9_cost, ks_X9_cost, kn_X9, kc_X9_cost, by decide +kernel⟩
theorem xm_X9_isSame : xm_V yX9_isSame RX9 cX9_isSame 6 (some .boolean) 3 := ⟨ki_X9_isSame, ks_X9_isSame, kn_X9, kc_X9_isSame, by decide +kernel⟩
theorem xm_X9_bitsBy : xm_V yX9_bitsBy RX9 cX9_bitsBy 5 (some .int) 4 := ⟨ki_X9_bitsBy, ks_X9_bitsBy, kn_X9, kc_X9_bitsBy, by decide +kernel⟩
theorem xm_X9_tell : xm_V yX9_tell RX9 cX9_tell 5 none 4 := ⟨ki_X9_tell, ks_X9_tell, kn_X9, kc_X9_tell, by decide +kernel⟩
theorem xm_X9_say : xm_V yX9_say RX9 cX9_say 3 none 2 := ⟨ki_X9_say, ks_X9_say, kn_X9, kc_X9_say, by decide +kernel⟩
theorem xm_X9_take : xm_V yX9_take RX9 cX9_take 5 none 3 := ⟨ki_X9_take, ks_X9_take, kn_X9, kc_X9_take, by decide +kernel⟩
theorem xm_X9_tellPlain : xm_V yX9_tellPlain RX9 cX9_tellPlain 3 none 1 := ⟨ki_X9_tellPlain, ks_X9_tellPlain, kn_X9, kc_X9_tellPlain, by decide +kernel⟩
theorem xm_X9_folded : xm_S yX9_folded RX9 cX9_folded 1 (some .int) 1 := ⟨kt_X9_folded, kn_X9, kc_X9_folded, by decide +kernel⟩
theorem xm_X9_tellSpans : xm_V yX9_tellSpans RX9 cX9_tellSpans 9 none 1 := ⟨ki_X9_tellSpans, ks_X9_tellSpans, kn_X9, kc_X9_tellSpans, by decide +kernel⟩
theorem xm_X9_runEnd : xm_V yX9_runEnd RX9 cX9_runEnd 3 (some .int) 1 := ⟨ki_X9_runEnd, ks_X9_runEnd, kn_X9, kc_X9_runEnd, by decide +kernel⟩
theorem xm_X9_tellCopied : xm_V yX9_tellCopied RX9 cX9_tellCopied 7 none 3 := ⟨ki_X9_tellCopied, ks_X9_tellCopied, kn_X9, kc_X9_tellCopied, by decide +kernel⟩
theorem xm_X9_tellDense : xm_V yX9_tellDense RX9 cX9_tellDense 6 none 2 := ⟨ki_X9_tellDense, ks_X9_tellDense, kn_X9, kc_X9_tellDense, by decide +kernel⟩
theorem xm_X9_numbersBits : xm_V yX9_numbersBits RX9 cX9_numbersBits 3 (some .int) 0 := ⟨ki_X9_numbersBits, ks_X9_numbersBits, kn_X9, kc_X9_numbersBits, by decide +kernel⟩
theorem xm_X9_pack : xm_V yX9_pack RX9 cX9_pack 2 (some .int) 0 := ⟨ki_X9_pack, ks_X9_pack, kn_X9, kc_X9_pack, by decide +kernel⟩
theorem xm_X9_choose : xm_V yX9_choose RX9 cX9_choose 5 none 1 := ⟨ki_X9_choose, ks_X9_choose, kn_X9, kc_X9_choose, by decide +kernel⟩
theorem xm_X9_consider : xm_V yX9_consider RX9 cX9_consider 6 none 4 := ⟨ki_X9_consider, ks_X9_consider, kn_X9, kc_X9_consider, by decide +kernel⟩
theorem xm_X9_writeRow : xm_V yX9_writeRow RX9 cX9_writeRow 3 none 1 := ⟨ki_X9_writeRow, ks_X9_writeRow, kn_X9, kc_X9_writeRow, by decide +kernel⟩
theorem xm_X9_putBit : xm_V yX9_putBit RX9 cX9_putBit 2 none 1 := ⟨ki_X9_putBit, ks_X9_putBit, kn_X9, kc_X9_putBit, by decide +kernel⟩
theorem xm_X9_putNumber : xm_V yX9_putNumber RX9 cX9_putNumber 4 none 2 := ⟨ki_X9_putNumber, ks_X9_putNumber, kn_X9, kc_X9_putNumber, by decide +kernel⟩
theorem xm_X9_putUnary : xm_V yX9_putUnary RX9 cX9_putUnary 3 none 1 := ⟨ki_X9_putUnary, ks_X9_putUnary, kn_X9, kc_X9_putUnary, by decide +kernel⟩
theorem xm_X9_putDoubled : xm_V yX9_putDoubled RX9 cX9_putDoubled 4 none 1 := ⟨ki_X9_putDoubled, ks_X9_putDoubled, kn_X9, kc_X9_putDoubled, by decide +kernel⟩
theorem xm_X9_putBits : xm_V yX9_putBits RX9 cX9_putBits 4 none 2 := ⟨ki_X9_putBits, ks_X9_putBits, kn_X9, kc_X9_putBits, by decide +kernel⟩
theorem xm_X9_closeBook : xm_V yX9_closeBook RX9 cX9_closeBook 2 none 0 := ⟨ki_X9_closeBook, ks_X9_closeBook, kn_X9, kc_X9_closeBook, by decide +kernel⟩
theorem xm_X9_told : xm_V yX9_told RX9 cX9_told 3 (some .int) 2 := ⟨ki_X9_told, ks_X9_told, kn_X9, kc_X9_told, by decide +kernel⟩
theorem xm_X9_looked : xm_V yX9_looked RX9 cX9_looked 5 (some .int) 1 := ⟨ki_X9_looked, ks_X9_looked, kn_X9, kc_X9_looked, by decide +kernel⟩
theorem xm_X9_would : xm_V yX9_would RX9 cX9_would 3 (some .int) 2 := ⟨ki_X9_would, ks_X9_would, kn_X9, kc_X9_would, by decide +kernel⟩
theorem xm_X9_bitsOfUse : xm_V yX9_bitsOfUse RX9 cX9_bitsOfUse 6 (some .int) 2 := ⟨ki_X9_bitsOfUse, ks_X9_bitsOfUse, kn_X9, kc_X9_bitsOfUse, by decide +kernel⟩
theorem xm_X9_forms : xm_V yX9_forms RX9 cX9_forms 4 (some .int) 0 := ⟨ki_X9_forms, ks_X9_forms, kn_X9, kc_X9_forms, by decide +kernel⟩
theorem xm_X9_best : xm_V yX9_best RX9 cX9_best 7 (some .int) 0 := ⟨ki_X9_best, ks_X9_best, kn_X9, kc_X9_best, by decide +kernel⟩
theorem xm_X9_weigh : xm_V yX9_weigh RX9 cX9_weigh 8 none 1 := ⟨ki_X9_weigh, ks_X9_weigh, kn_X9, kc_X9_weigh, by decide +kernel⟩
theorem xm_X9_bit : xm_V yX9_bit RX9 cX9_bit 2 (some .int) 1 := ⟨ki_X9_bit, ks_X9_bit, kn_X9, kc_X9_bit, by decide +kernel⟩
theorem xm_X9_place : xm_V yX9_place RX9 cX9_place 2 (some .int) 1 := ⟨ki_X9_place, ks_X9_place, kn_X9, kc_X9_place, by decide +kernel⟩
theorem xm_X9_sum : xm_V yX9_sum RX9 cX9_sum 4 (some .long) 0 := ⟨ki_X9_sum, ks_X9_sum, kn_X9, kc_X9_sum, by decide +kernel⟩
theorem xm_X9_bytes : xm_V yX9_bytes RX9 cX9_bytes 1 (some .int) 0 := ⟨ki_X9_bytes, ks_X9_bytes, kn_X9, kc_X9_bytes, by decide +kernel⟩
theorem xm_X9_byteAt : xm_V yX9_byteAt RX9 cX9_byteAt 4 (some .int) 1 := ⟨ki_X9_byteAt, ks_X9_byteAt, kn_X9, kc_X9_byteAt, by decide +kernel⟩
theorem xm_X9_alter : xm_V yX9_alter RX9 cX9_alter 4 (some .int) 2 := ⟨ki_X9_alter, ks_X9_alter, kn_X9, kc_X9_alter, by decide +kernel⟩
theorem xm_X9_judge : xm_V yX9_judge RX9 cX9_judge 3 (some .int) 0 := ⟨ki_X9_judge, ks_X9_judge, kn_X9, kc_X9_judge, by decide +kernel⟩
theorem xm_X9_order : xm_V yX9_order RX9 cX9_order 3 (some .int) 2 := ⟨ki_X9_order, ks_X9_order, kn_X9, kc_X9_order, by decide +kernel⟩
theorem xm_X9_toOrder : xm_V yX9_toOrder RX9 cX9_toOrder 2 none 1 := ⟨ki_X9_toOrder, ks_X9_toOrder, kn_X9, kc_X9_toOrder, by decide +kernel⟩
theorem xm_X9_orderLayers : xm_V yX9_orderLayers RX9 cX9_orderLayers 4 none 0 := ⟨ki_X9_orderLayers, ks_X9_orderLayers, kn_X9, kc_X9_orderLayers, by decide +kernel⟩
theorem xm_X9_orderBy : xm_V yX9_orderBy RX9 cX9_orderBy 7 none 1 := ⟨ki_X9_orderBy, ks_X9_orderBy, kn_X9, kc_X9_orderBy, by decide +kernel⟩
theorem xm_X9_keyOf : xm_V yX9_keyOf RX9 cX9_keyOf 5 (some .int) 1 := ⟨ki_X9_keyOf, ks_X9_keyOf, kn_X9, kc_X9_keyOf, by decide +kernel⟩
theorem xm_X9_renumber : xm_V yX9_renumber RX9 cX9_renumber 5 (some .int) 1 := ⟨ki_X9_renumber, ks_X9_renumber, kn_X9, kc_X9_renumber, by decide +kernel⟩
theorem xm_X9_threes : xm_V yX9_threes RX9 cX9_threes 5 (some .int) 0 := ⟨ki_X9_threes, ks_X9_threes, kn_X9, kc_X9_threes, by decide +kernel⟩
theorem xm_X9_isJoined : xm_V yX9_isJoined RX9 cX9_isJoined 3 (some .boolean) 2 := ⟨ki_X9_isJoined, ks_X9_isJoined, kn_X9, kc_X9_isJoined, by decide +kernel⟩
theorem xm_X9_parts : xm_V yX9_parts RX9 cX9_parts 6 (some .int) 1 := ⟨ki_X9_parts, ks_X9_parts, kn_X9, kc_X9_parts, by decide +kernel⟩
theorem xm_X9_walk : xm_V yX9_walk RX9 cX9_walk 6 (some .int) 2 := ⟨ki_X9_walk, ks_X9_walk, kn_X9, kc_X9_walk, by decide +kernel⟩
theorem xm_X9_far : xm_V yX9_far RX9 cX9_far 4 (some .int) 2 := ⟨ki_X9_far, ks_X9_far, kn_X9, kc_X9_far, by decide +kernel⟩
theorem xm_X9_count : xm_V yX9_count RX9 cX9_count 4 (some .int) 1 := ⟨ki_X9_count, ks_X9_count, kn_X9, kc_X9_count, by decide +kernel⟩
set_option maxRecDepth 100000 in
theorem c_element (κ : xb_k) {ws : va_W} {a len : Nat} {f : Nat → Int32} {i : Int32} (k : Nat) (hk : ws[k]? = some (a, .inl (κ.2.1.2.1, len, .inl f))) (hl : len < 2 ^ 31) : Met κ.1 yX8_element [Cond.code yX8_element cX8_element 2 (some .int)] { frames := 0, cells := 0, slots := 0, locals := 0 } (xb_P κ [.ref a, .int i] ws) (xb_Qi κ (el len f i) ws) 0 0 κ.2.2.1 := by
  refine x_enter (own := RX8) (lv0 := [(0, .ref a), (1, .int i)]) (by decide) rfl rfl rfl (fun Γ C E => ?_)
  unfold el at E
  refine x_iload_n C dX8_element_0 1 rfl ?_
  refine x_if_lt (tgt := 16) C dX8_element_1 (by decide) (fun hc => ?_) (fun hc => ?_)
  · rw [if_pos hc] at E
    refine x_iconst (v := 0) C dX8_element_16 (by decide) ?_
    exact x_iret C E dX8_element_17
  · rw [if_neg hc] at E
    refine x_iload_n C dX8_element_4 1 rfl ?_
    refine x_aload_n C dX8_element_5 0 rfl ?_
    refine x_alen (v := nI len) C k 0 hk rfl rfl dX8_element_6 ?_
    refine x_icmp_ge (tgt := 16) C dX8_element_7 (by decide) (fun hd => ?_) (fun hd => ?_)
    · rw [if_pos hd] at E
      refine x_iconst (v := 0) C dX8_element_16 (by decide) ?_
      exact x_iret C E dX8_element_17
    · rw [if_neg hd] at E
      refine x_aload_n C dX8_element_10 0 rfl ?_
      refine x_iload_n C dX8_element_11 1 rfl ?_
      refine x_iald C k hk (bn_of (el_in hc hd hl)) dX8_element_12 ?_
      refine x_goto (tgt := 17) C dX8_element_13 (by decide) ?_
      exact x_iret C E dX8_element_17
set_option maxRecDepth 100000 in
theorem c_elementL (κ : xb_k) {ws : va_W} {i : Int32} : Met κ.1 yX8_element [Cond.code yX8_element cX8_element 2 (some .int)] { frames := 0, cells := 0, slots := 0, locals := 0 } (xb_P κ [.ref κ.2.2.2.1, .int i] ws) (xb_Qi κ (el 3 xb_gL i) ws) 0 0 κ.2.2.1 := by
  refine x_enter (own := RX8) (lv0 := [(0, .ref κ.2.2.2.1), (1, .int i)]) (by decide) rfl rfl rfl (fun Γ C E => ?_)
  unfold el at E
  refine x_iload_n C dX8_element_0 1 rfl ?_
  refine x_if_lt (tgt := 16) C dX8_element_1 (by decide) (fun hc => ?_) (fun hc => ?_)
  · rw [if_pos hc] at E
    refine x_iconst (v := 0) C dX8_element_16 (by decide) ?_
    exact x_iret C E dX8_element_17
  · rw [if_neg hc] at E
    refine x_iload_n C dX8_element_4 1 rfl ?_
    refine x_aload_n C dX8_element_5 0 rfl ?_
    intro H locs ls hP hD hS hl
    refine va_tlen (v := nI 3) C.1 C.2.1 C.2.2.2.2.1.2.2.2.1 hS rfl dX8_element_6 ?_
    revert H locs ls hP hD hS hl
    refine x_icmp_ge (κ := κ) (Γ := Γ) (ws := ws) (tgt := 16) C dX8_element_7 (by decide) (fun hd => ?_) (fun hd => ?_)
    · rw [if_pos hd] at E
      refine x_iconst (v := 0) C dX8_element_16 (by decide) ?_
      exact x_iret C E dX8_element_17
    · rw [if_neg hd] at E
      refine x_aload_n C dX8_element_10 0 rfl ?_
      refine x_iload_n C dX8_element_11 1 rfl ?_
      intro H locs ls hP hD hS hl
      refine va_ti (v := .int (xb_gL i.toNatClampNeg)) C.1 C.2.1 C.2.2.2.2.1.2.2.2.1 hS (el_in hc hd (by decide)) rfl dX8_element_12 ?_
      revert H locs ls hP hD hS hl
      refine x_goto (κ := κ) (Γ := Γ) (ws := ws) (tgt := 17) C dX8_element_13 (by decide) ?_
      exact x_iret C E dX8_element_17
set_option maxRecDepth 100000 in
theorem c_elementM (κ : xb_k) {ws : va_W} {i : Int32} : Met κ.1 yX8_element [Cond.code yX8_element cX8_element 2 (some .int)] { frames := 0, cells := 0, slots := 0, locals := 0 } (xb_P κ [.ref κ.2.2.2.2, .int i] ws) (xb_Qi κ (el 3 xb_gM i) ws) 0 0 κ.2.2.1 := by
  refine x_enter (own := RX8) (lv0 := [(0, .ref κ.2.2.2.2), (1, .int i)]) (by decide) rfl rfl rfl (fun Γ C E => ?_)
  unfold el at E
  refine x_iload_n C dX8_element_0 1 rfl ?_
  refine x_if_lt (tgt := 16) C dX8_element_1 (by decide) (fun hc => ?_) (fun hc => ?_)
  · rw [if_pos hc] at E
    refine x_iconst (v := 0) C dX8_element_16 (by decide) ?_
    exact x_iret C E dX8_element_17
  · rw [if_neg hc] at E
    refine x_iload_n C dX8_element_4 1 rfl ?_
    refine x_aload_n C dX8_element_5 0 rfl ?_
    intro H locs ls hP hD hS hl
    refine va_tlen (v := nI 3) C.1 C.2.1 C.2.2.2.2.1.2.2.2.2.2 hS rfl dX8_element_6 ?_
    revert H locs ls hP hD hS hl
    refine x_icmp_ge (κ := κ) (Γ := Γ) (ws := ws) (tgt := 16) C dX8_element_7 (by decide) (fun hd => ?_) (fun hd => ?_)
    · rw [if_pos hd] at E
      refine x_iconst (v := 0) C dX8_element_16 (by decide) ?_
      exact x_iret C E dX8_element_17
    · rw [if_neg hd] at E
      refine x_aload_n C dX8_element_10 0 rfl ?_
      refine x_iload_n C dX8_element_11 1 rfl ?_
      intro H locs ls hP hD hS hl
      refine va_ti (v := .int (xb_gM i.toNatClampNeg)) C.1 C.2.1 C.2.2.2.2.1.2.2.2.2.2 hS (el_in hc hd (by decide)) rfl dX8_element_12 ?_
      revert H locs ls hP hD hS hl
      refine x_goto (κ := κ) (Γ := Γ) (ws := ws) (tgt := 17) C dX8_element_13 (by decide) ?_
      exact x_iret C E dX8_element_17
theorem fl_step {f : Nat → Int32} {v : Int32} {j len : Nat} (hj : j < len) (hl : len < 2 ^ 31) : upd (fl j f v) (nI j).toNatClampNeg v = fl (j + 1) f v := by
  rw [nI_clamp (by omega)]
  funext k
  unfold upd fl
  by_cases h : k = j
  · subst h; simp
  · rw [if_neg h]
    by_cases h2 : k < j
    · rw [if_pos h2, if_pos (by omega)]
    · rw [if_neg h2, if_neg (by omega)]
theorem fl_zero {f : Nat → Int32} {v : Int32} : fl 0 f v = f := by
  funext k
  unfold fl
  rw [if_neg (by omega)]
theorem ws_same {ws : va_W} {k : Nat} {x : Nat × va_E} (h : ws[k]? = some x) : ws.set k x = ws := by
  apply List.ext_getElem?
  intro i
  rw [List.getElem?_set]
  by_cases hi : k = i
  · subst hi
    rw [if_pos rfl, if_pos (List.getElem?_eq_some_iff.mp h).1, h]
  · rw [if_neg hi]
set_option maxRecDepth 100000 in
theorem w_fill {κ : xb_k} {Γ : xb_X} {rm : Room} {ws : va_W} {a len k : Nat} {f : Nat → Int32} {v : Int32} (C : xb_C κ Γ 4 cJ7_fill_53178 RJ7 rm) (hk : ws[k]? = some (a, .inl (κ.2.1.2.1, len, .inl f))) (hlen : len < 2 ^ 31) (K : xb_W κ Γ 4 0 0 20 [] [] (ws.set k (a, .inl (κ.2.1.2.1, len, .inl (fl len f v))))) : ∀ (n j : Nat), j ≤ len → len ≤ j + n → xb_W κ Γ 4 0 0 5 [(0, .ref a), (1, .int v), (2, .int (nI j)), (3, .int (nI len))] [] (ws.set k (a, .inl (κ.2.1.2.1, len, .inl (fl j f v)))) := by
  have hkl : k < ws.length := (List.getElem?_eq_some_iff.mp hk).1
  have hget : ∀ x : Nat × va_E, (ws.set k x)[k]? = some x := fun x => by rw [List.getElem?_set_self hkl]
  intro n
  induction n with
  | zero =>
    intro j h1 h2
    have e : j = len := by omega
    subst e
    refine x_iload_n C dJ7_fill_53178_5 2 rfl ?_
    refine x_iload_n C dJ7_fill_53178_6 3 rfl ?_
    refine x_icmp_ge (tgt := 20) C dJ7_fill_53178_7 (by decide) (fun hc => ?_) (fun hc => ?_)
    · exact x_sub [] rfl K
    · exact absurd (nI_le (Nat.le_refl _) hlen) hc
  | succ n ih =>
    intro j h1 h2
    refine x_iload_n C dJ7_fill_53178_5 2 rfl ?_
    refine x_iload_n C dJ7_fill_53178_6 3 rfl ?_
    refine x_icmp_ge (tgt := 20) C dJ7_fill_53178_7 (by decide) (fun hc => ?_) (fun hc => ?_)
    · have e : j = len := by
        rcases Nat.lt_or_ge j len with h | h
        · exact absurd hc (nI_ge h hlen)
        · omega
      subst e
      exact x_sub [] rfl K
    · have hj : j < len := by
        rcases Nat.lt_or_ge j len with h | h
        · exact h
        · exact absurd (nI_le h (by omega)) hc
      refine x_aload_n C dJ7_fill_53178_10 0 rfl ?_
      refine x_iload_n C dJ7_fill_53178_11 2 rfl ?_
      refine x_iload_n C dJ7_fill_53178_12 1 rfl ?_
      refine x_iast (ws2 := ws.set k (a, .inl (κ.2.1.2.1, len, .inl (fl (j + 1) f v)))) C k (hget _) (bn_of (vp_in_nI hj hlen)) dJ7_fill_53178_13 (by rw [fl_step hj hlen, List.set_set]) ?_
      refine x_iinc (v := nI (j + 1)) (lv2 := [(2, .int (nI (j + 1))), (0, .ref a), (1, .int v), (3, .int (nI len))]) C dJ7_fill_53178_14 2 rfl (nI_1 j) (by decide) rfl ?_
      refine x_goto (tgt := 5) C dJ7_fill_53178_17 (by decide) ?_
      exact x_sub [1, 2, 0, 3] rfl (ih (j + 1) (by omega) (by omega))
set_option maxRecDepth 100000 in
theorem c_fill (κ : xb_k) {ws ws2 : va_W} {a len : Nat} {f : Nat → Int32} {v : Int32} (k : Nat) (hk : ws[k]? = some (a, .inl (κ.2.1.2.1, len, .inl f))) (hlen : len < 2 ^ 31) (h2 : ws.set k (a, .inl (κ.2.1.2.1, len, .inl (fl len f v))) = ws2) : Met κ.1 yJ7_fill_53178 [Cond.code yJ7_fill_53178 cJ7_fill_53178 4 none] { frames := 0, cells := 0, slots := 0, locals := 0 } (xb_P κ [.ref a, .int v] ws) (xb_Qv κ ws2) 0 0 κ.2.2.1 := by
  refine x_enter (own := RJ7) (lv0 := [(0, .ref a), (1, .int v)]) (by decide) rfl rfl rfl (fun Γ C E => ?_)
  refine x_iconst (v := 0) C dJ7_fill_53178_0 (by decide) ?_
  refine x_istore_n (lv2 := [(2, .int 0), (0, .ref a), (1, .int v)]) C dJ7_fill_53178_1 rfl (by decide) rfl ?_
  refine x_aload_n C dJ7_fill_53178_2 1 rfl ?_
  refine x_alen (v := nI len) C k 0 hk rfl rfl dJ7_fill_53178_3 ?_
  refine x_istore_n (lv2 := [(3, .int (nI len)), (2, .int 0), (0, .ref a), (1, .int v)]) C dJ7_fill_53178_4 rfl (by decide) rfl ?_
  refine x_eq (ws2 := ws.set k (a, .inl (κ.2.1.2.1, len, .inl (fl 0 f v)))) (by rw [fl_zero, ws_same hk]) ?_
  subst h2
  exact x_sub [2, 3, 1, 0] rfl (w_fill C hk hlen (x_vret C E dJ7_fill_53178_20) len 0 (Nat.zero_le _) (by omega))

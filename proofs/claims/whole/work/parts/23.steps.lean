abbrev XS : Type := (Nat → Int64) × (Nat → Int64) × (Nat → Int32) × (Nat → Int32) × Int32 × (Nat → Int32) × (Nat → Int32) × Int32 × Int32 × (Nat → Int64) × (Nat → Int64) × Int32 × (Nat → Int32) × (Nat → Int32) × (Nat → Int32) × (Nat → Int32) × (Nat → Int32) × (Nat → Int32) × (Nat → Int32) × Int32 × Int32 × (Nat → Int32) × (Nat → Int32) × (Nat → Int32) × (Nat → Int64)
abbrev xro_ (S : XS) : (Nat → Int64) := S.1
abbrev xrn_ (S : XS) : (Nat → Int64) := S.2.1
abbrev xfo_ (S : XS) : (Nat → Int32) := S.2.2.1
abbrev xva_ (S : XS) : (Nat → Int32) := S.2.2.2.1
abbrev xts_ (S : XS) : Int32 := S.2.2.2.2.1
abbrev xus_ (S : XS) : (Nat → Int32) := S.2.2.2.2.2.1
abbrev xnu_ (S : XS) : (Nat → Int32) := S.2.2.2.2.2.2.1
abbrev xth_ (S : XS) : Int32 := S.2.2.2.2.2.2.2.1
abbrev xsp_ (S : XS) : Int32 := S.2.2.2.2.2.2.2.2.1
abbrev xpr_ (S : XS) : (Nat → Int64) := S.2.2.2.2.2.2.2.2.2.1
abbrev xpn_ (S : XS) : (Nat → Int64) := S.2.2.2.2.2.2.2.2.2.2.1
abbrev xbs_ (S : XS) : Int32 := S.2.2.2.2.2.2.2.2.2.2.2.1
abbrev xwr_ (S : XS) : (Nat → Int32) := S.2.2.2.2.2.2.2.2.2.2.2.2.1
abbrev xno_ (S : XS) : (Nat → Int32) := S.2.2.2.2.2.2.2.2.2.2.2.2.2.1
abbrev xki_ (S : XS) : (Nat → Int32) := S.2.2.2.2.2.2.2.2.2.2.2.2.2.2.1
abbrev xdi_ (S : XS) : (Nat → Int32) := S.2.2.2.2.2.2.2.2.2.2.2.2.2.2.2.1
abbrev xde_ (S : XS) : (Nat → Int32) := S.2.2.2.2.2.2.2.2.2.2.2.2.2.2.2.2.1
abbrev xst_ (S : XS) : (Nat → Int32) := S.2.2.2.2.2.2.2.2.2.2.2.2.2.2.2.2.2.1
abbrev xta_ (S : XS) : (Nat → Int32) := S.2.2.2.2.2.2.2.2.2.2.2.2.2.2.2.2.2.2.1
abbrev xcb_ (S : XS) : Int32 := S.2.2.2.2.2.2.2.2.2.2.2.2.2.2.2.2.2.2.2.1
abbrev xcd_ (S : XS) : Int32 := S.2.2.2.2.2.2.2.2.2.2.2.2.2.2.2.2.2.2.2.2.1
abbrev xbe_ (S : XS) : (Nat → Int32) := S.2.2.2.2.2.2.2.2.2.2.2.2.2.2.2.2.2.2.2.2.2.1
abbrev xli_ (S : XS) : (Nat → Int32) := S.2.2.2.2.2.2.2.2.2.2.2.2.2.2.2.2.2.2.2.2.2.2.1
abbrev xke_ (S : XS) : (Nat → Int32) := S.2.2.2.2.2.2.2.2.2.2.2.2.2.2.2.2.2.2.2.2.2.2.2.1
abbrev xne_ (S : XS) : (Nat → Int64) := S.2.2.2.2.2.2.2.2.2.2.2.2.2.2.2.2.2.2.2.2.2.2.2.2
abbrev xwS (κ : xb_k) (q : Nat → Nat) (nn : Nat) (S : XS) : va_W := xw κ q nn (xro_ S) (xrn_ S) (xfo_ S) (xva_ S) (xts_ S) (xus_ S) (xnu_ S) (xth_ S) (xsp_ S) (xpr_ S) (xpn_ S) (xbs_ S) (xwr_ S) (xno_ S) (xki_ S) (xdi_ S) (xde_ S) (xst_ S) (xta_ S) (xcb_ S) (xcd_ S) (xbe_ S) (xli_ S) (xke_ S) (xne_ S)
abbrev MS : Type := Int32 × Int32 × Int32 × Int32 × Int32 × Int32 × Int32 × Int32 × Int32 × Int32 × Int32 × Int32 × (Nat → Int32) × (Nat → Int32) × (Nat → Int32) × (Nat → Int32) × (Nat → Int32) × (Nat → Int32) × (Nat → Int32) × (Nat → Int32) × (Nat → Int32) × (Nat → Int32) × (Nat → Int32) × (Nat → Int32) × (Nat → Int32) × (Nat → Int32) × (Nat → Int32) × (Nat → Int32) × (Nat → Int32) × (Nat → Int32) × (Nat → Int32) × (Nat → Int32) × (Nat → Int32) × (Nat → Int32) × (Nat → Int32)
abbrev mth_ (S : MS) : Int32 := S.1
abbrev mn_ (S : MS) : Int32 := S.2.1
abbrev mib_ (S : MS) : Int32 := S.2.2.1
abbrev mpa_ (S : MS) : Int32 := S.2.2.2.1
abbrev mwi_ (S : MS) : Int32 := S.2.2.2.2.1
abbrev mch_ (S : MS) : Int32 := S.2.2.2.2.2.1
abbrev mst_ (S : MS) : Int32 := S.2.2.2.2.2.2.1
abbrev msz_ (S : MS) : Int32 := S.2.2.2.2.2.2.2.1
abbrev mns_ (S : MS) : Int32 := S.2.2.2.2.2.2.2.2.1
abbrev mld_ (S : MS) : Int32 := S.2.2.2.2.2.2.2.2.2.1
abbrev mps_ (S : MS) : Int32 := S.2.2.2.2.2.2.2.2.2.2.1
abbrev mbb_ (S : MS) : Int32 := S.2.2.2.2.2.2.2.2.2.2.2.1
abbrev mno_ (S : MS) : (Nat → Int32) := S.2.2.2.2.2.2.2.2.2.2.2.2.1
abbrev mpk_ (S : MS) : (Nat → Int32) := S.2.2.2.2.2.2.2.2.2.2.2.2.2.1
abbrev mtu_ (S : MS) : (Nat → Int32) := S.2.2.2.2.2.2.2.2.2.2.2.2.2.2.1
abbrev mfo_ (S : MS) : (Nat → Int32) := S.2.2.2.2.2.2.2.2.2.2.2.2.2.2.2.1
abbrev mbi_ (S : MS) : (Nat → Int32) := S.2.2.2.2.2.2.2.2.2.2.2.2.2.2.2.2.1
abbrev mwr_ (S : MS) : (Nat → Int32) := S.2.2.2.2.2.2.2.2.2.2.2.2.2.2.2.2.2.1
abbrev mus_ (S : MS) : (Nat → Int32) := S.2.2.2.2.2.2.2.2.2.2.2.2.2.2.2.2.2.2.1
abbrev mnu_ (S : MS) : (Nat → Int32) := S.2.2.2.2.2.2.2.2.2.2.2.2.2.2.2.2.2.2.2.1
abbrev mli_ (S : MS) : (Nat → Int32) := S.2.2.2.2.2.2.2.2.2.2.2.2.2.2.2.2.2.2.2.2.1
abbrev mot_ (S : MS) : (Nat → Int32) := S.2.2.2.2.2.2.2.2.2.2.2.2.2.2.2.2.2.2.2.2.2.1
abbrev mbl_ (S : MS) : (Nat → Int32) := S.2.2.2.2.2.2.2.2.2.2.2.2.2.2.2.2.2.2.2.2.2.2.1
abbrev mki_ (S : MS) : (Nat → Int32) := S.2.2.2.2.2.2.2.2.2.2.2.2.2.2.2.2.2.2.2.2.2.2.2.1
abbrev mfr_ (S : MS) : (Nat → Int32) := S.2.2.2.2.2.2.2.2.2.2.2.2.2.2.2.2.2.2.2.2.2.2.2.2.1
abbrev mde_ (S : MS) : (Nat → Int32) := S.2.2.2.2.2.2.2.2.2.2.2.2.2.2.2.2.2.2.2.2.2.2.2.2.2.1
abbrev mbe_ (S : MS) : (Nat → Int32) := S.2.2.2.2.2.2.2.2.2.2.2.2.2.2.2.2.2.2.2.2.2.2.2.2.2.2.1
abbrev mow_ (S : MS) : (Nat → Int32) := S.2.2.2.2.2.2.2.2.2.2.2.2.2.2.2.2.2.2.2.2.2.2.2.2.2.2.2.1
abbrev mco_ (S : MS) : (Nat → Int32) := S.2.2.2.2.2.2.2.2.2.2.2.2.2.2.2.2.2.2.2.2.2.2.2.2.2.2.2.2.1
abbrev mpt_ (S : MS) : (Nat → Int32) := S.2.2.2.2.2.2.2.2.2.2.2.2.2.2.2.2.2.2.2.2.2.2.2.2.2.2.2.2.2.1
abbrev mle_ (S : MS) : (Nat → Int32) := S.2.2.2.2.2.2.2.2.2.2.2.2.2.2.2.2.2.2.2.2.2.2.2.2.2.2.2.2.2.2.1
abbrev mpl_ (S : MS) : (Nat → Int32) := S.2.2.2.2.2.2.2.2.2.2.2.2.2.2.2.2.2.2.2.2.2.2.2.2.2.2.2.2.2.2.2.1
abbrev mit_ (S : MS) : (Nat → Int32) := S.2.2.2.2.2.2.2.2.2.2.2.2.2.2.2.2.2.2.2.2.2.2.2.2.2.2.2.2.2.2.2.2.1
abbrev mro_ (S : MS) : (Nat → Int32) := S.2.2.2.2.2.2.2.2.2.2.2.2.2.2.2.2.2.2.2.2.2.2.2.2.2.2.2.2.2.2.2.2.2.1
abbrev maw_ (S : MS) : (Nat → Int32) := S.2.2.2.2.2.2.2.2.2.2.2.2.2.2.2.2.2.2.2.2.2.2.2.2.2.2.2.2.2.2.2.2.2.2
abbrev mwS (κ : xb_k) (q : Nat → Nat) (S : MS) : va_W := mw κ q (mth_ S) (mn_ S) (mib_ S) (mpa_ S) (mwi_ S) (mch_ S) (mst_ S) (msz_ S) (mns_ S) (mld_ S) (mps_ S) (mbb_ S) (mno_ S) (mpk_ S) (mtu_ S) (mfo_ S) (mbi_ S) (mwr_ S) (mus_ S) (mnu_ S) (mli_ S) (mot_ S) (mbl_ S) (mki_ S) (mfr_ S) (mde_ S) (mbe_ S) (mow_ S) (mco_ S) (mpt_ S) (mle_ S) (mpl_ S) (mit_ S) (mro_ S) (maw_ S)
def SX_pair (fu : Nat) (nn : Nat) (x1 : Int32) (x2 : Int32) (S : XS) : Option (Int32 × XS) := (F_X8_pair fu nn x1 x2 (xro_ S) (xth_ S) (xpr_ S)).bind fun o => some (o.1, (o.2, (xrn_ S), (xfo_ S), (xva_ S), (xts_ S), (xus_ S), (xnu_ S), (xth_ S), (xsp_ S), (xpr_ S), (xpn_ S), (xbs_ S), (xwr_ S), (xno_ S), (xki_ S), (xdi_ S), (xde_ S), (xst_ S), (xta_ S), (xcb_ S), (xcd_ S), (xbe_ S), (xli_ S), (xke_ S), (xne_ S)))
theorem cX_pair {κ : xb_k} {q : Nat → Nat} {nn : Nat} {fu : Nat} {x1 : Int32} {x2 : Int32} {S T : XS} {r : Int32} (h : SX_pair fu nn x1 x2 S = some (r, T)) : Met κ.1 yX8_pair [Cond.code yX8_pair cX8_pair 3 (some .int)] { frames := 4, cells := 0, slots := 0, locals := 91 } (xb_P κ [.ref (q 0), .int x1, .int x2] (xwS κ q nn S)) (xb_Qi κ r (xwS κ q nn T)) 0 0 κ.2.2.1 := by
  unfold SX_pair at h
  obtain ⟨o, ho, e⟩ := bd_s h
  cases e
  exact c_X8_pair ho
def SM_pair (fu : Nat) (x1 : Int32) (x2 : Int32) (S : MS) : Option (Int32 × MS) := (F_X9_pair x1 x2 (mth_ S) (mn_ S) (mno_ S) (mib_ S) (mpa_ S) (mpk_ S)).bind fun o => some (o.1, (o.2.1, (mn_ S), (mib_ S), o.2.2.1, (mwi_ S), (mch_ S), (mst_ S), (msz_ S), (mns_ S), (mld_ S), (mps_ S), (mbb_ S), o.2.2.2, (mpk_ S), (mtu_ S), (mfo_ S), (mbi_ S), (mwr_ S), (mus_ S), (mnu_ S), (mli_ S), (mot_ S), (mbl_ S), (mki_ S), (mfr_ S), (mde_ S), (mbe_ S), (mow_ S), (mco_ S), (mpt_ S), (mle_ S), (mpl_ S), (mit_ S), (mro_ S), (maw_ S)))
theorem cM_pair {κ : xb_k} {q : Nat → Nat} {fu : Nat} {x1 : Int32} {x2 : Int32} {S T : MS} {r : Int32} (h : SM_pair fu x1 x2 S = some (r, T)) : Met κ.1 yX9_pair [Cond.code yX9_pair cX9_pair 3 (some .int)] { frames := 2, cells := 0, slots := 0, locals := 46 } (xb_P κ [.ref (q 0), .int x1, .int x2] (mwS κ q S)) (xb_Qi κ r (mwS κ q T)) 0 0 κ.2.2.1 := by
  unfold SM_pair at h
  obtain ⟨o, ho, e⟩ := bd_s h
  cases e
  exact c_X9_pair ho
def OK_pair (fu : Nat) (Rel : Nat → XS → MS → Prop) : Prop := ∀ (nn : Nat) (X : XS) (M : MS) (x1 : Int32) (x2 : Int32), Rel nn X M → ∃ (r : Int32) (X2 : XS) (M2 : MS), SX_pair fu nn x1 x2 X = some (r, X2) ∧ SM_pair fu x1 x2 M = some (r, M2) ∧ Rel nn X2 M2
def SX_drop (fu : Nat) (nn : Nat) (x1 : Int32) (x2 : Int32) (S : XS) : Option (Int32 × XS) := (F_X8_drop fu nn x1 x2 (xro_ S) (xth_ S) (xpr_ S)).bind fun o => some (o.1, (o.2, (xrn_ S), (xfo_ S), (xva_ S), (xts_ S), (xus_ S), (xnu_ S), (xth_ S), (xsp_ S), (xpr_ S), (xpn_ S), (xbs_ S), (xwr_ S), (xno_ S), (xki_ S), (xdi_ S), (xde_ S), (xst_ S), (xta_ S), (xcb_ S), (xcd_ S), (xbe_ S), (xli_ S), (xke_ S), (xne_ S)))
theorem cX_drop {κ : xb_k} {q : Nat → Nat} {nn : Nat} {fu : Nat} {x1 : Int32} {x2 : Int32} {S T : XS} {r : Int32} (h : SX_drop fu nn x1 x2 S = some (r, T)) : Met κ.1 yX8_drop [Cond.code yX8_drop cX8_drop 3 (some .int)] { frames := 4, cells := 0, slots := 0, locals := 91 } (xb_P κ [.ref (q 0), .int x1, .int x2] (xwS κ q nn S)) (xb_Qi κ r (xwS κ q nn T)) 0 0 κ.2.2.1 := by
  unfold SX_drop at h
  obtain ⟨o, ho, e⟩ := bd_s h
  cases e
  exact c_X8_drop ho
def SM_drop (fu : Nat) (x1 : Int32) (x2 : Int32) (S : MS) : Option (Int32 × MS) := (F_X9_drop x1 x2 (mth_ S) (mn_ S) (mno_ S) (mib_ S) (mpa_ S) (mpk_ S)).bind fun o => some (o.1, (o.2.1, (mn_ S), (mib_ S), o.2.2.1, (mwi_ S), (mch_ S), (mst_ S), (msz_ S), (mns_ S), (mld_ S), (mps_ S), (mbb_ S), o.2.2.2, (mpk_ S), (mtu_ S), (mfo_ S), (mbi_ S), (mwr_ S), (mus_ S), (mnu_ S), (mli_ S), (mot_ S), (mbl_ S), (mki_ S), (mfr_ S), (mde_ S), (mbe_ S), (mow_ S), (mco_ S), (mpt_ S), (mle_ S), (mpl_ S), (mit_ S), (mro_ S), (maw_ S)))
theorem cM_drop {κ : xb_k} {q : Nat → Nat} {fu : Nat} {x1 : Int32} {x2 : Int32} {S T : MS} {r : Int32} (h : SM_drop fu x1 x2 S = some (r, T)) : Met κ.1 yX9_drop [Cond.code yX9_drop cX9_drop 3 (some .int)] { frames := 2, cells := 0, slots := 0, locals := 46 } (xb_P κ [.ref (q 0), .int x1, .int x2] (mwS κ q S)) (xb_Qi κ r (mwS κ q T)) 0 0 κ.2.2.1 := by
  unfold SM_drop at h
  obtain ⟨o, ho, e⟩ := bd_s h
  cases e
  exact c_X9_drop ho
def OK_drop (fu : Nat) (Rel : Nat → XS → MS → Prop) : Prop := ∀ (nn : Nat) (X : XS) (M : MS) (x1 : Int32) (x2 : Int32), Rel nn X M → ∃ (r : Int32) (X2 : XS) (M2 : MS), SX_drop fu nn x1 x2 X = some (r, X2) ∧ SM_drop fu x1 x2 M = some (r, M2) ∧ Rel nn X2 M2
def SX_has (fu : Nat) (nn : Nat) (x1 : Int32) (x2 : Int32) (S : XS) : Option (Int32 × XS) := (F_X8_has nn x1 x2 (xro_ S)).bind fun o => some (o, ((xro_ S), (xrn_ S), (xfo_ S), (xva_ S), (xts_ S), (xus_ S), (xnu_ S), (xth_ S), (xsp_ S), (xpr_ S), (xpn_ S), (xbs_ S), (xwr_ S), (xno_ S), (xki_ S), (xdi_ S), (xde_ S), (xst_ S), (xta_ S), (xcb_ S), (xcd_ S), (xbe_ S), (xli_ S), (xke_ S), (xne_ S)))
theorem cX_has {κ : xb_k} {q : Nat → Nat} {nn : Nat} {fu : Nat} {x1 : Int32} {x2 : Int32} {S T : XS} {r : Int32} (h : SX_has fu nn x1 x2 S = some (r, T)) : Met κ.1 yX8_has [Cond.code yX8_has cX8_has 3 (some .int)] { frames := 2, cells := 0, slots := 0, locals := 44 } (xb_P κ [.ref (q 0), .int x1, .int x2] (xwS κ q nn S)) (xb_Qi κ r (xwS κ q nn T)) 0 0 κ.2.2.1 := by
  unfold SX_has at h
  obtain ⟨o, ho, e⟩ := bd_s h
  cases e
  exact c_X8_has ho
def SM_has (fu : Nat) (x1 : Int32) (x2 : Int32) (S : MS) : Option (Int32 × MS) := (F_X9_has x1 x2 (mth_ S) (mn_ S) (mno_ S)).bind fun o => some (o.1, (o.2, (mn_ S), (mib_ S), (mpa_ S), (mwi_ S), (mch_ S), (mst_ S), (msz_ S), (mns_ S), (mld_ S), (mps_ S), (mbb_ S), (mno_ S), (mpk_ S), (mtu_ S), (mfo_ S), (mbi_ S), (mwr_ S), (mus_ S), (mnu_ S), (mli_ S), (mot_ S), (mbl_ S), (mki_ S), (mfr_ S), (mde_ S), (mbe_ S), (mow_ S), (mco_ S), (mpt_ S), (mle_ S), (mpl_ S), (mit_ S), (mro_ S), (maw_ S)))
theorem cM_has {κ : xb_k} {q : Nat → Nat} {fu : Nat} {x1 : Int32} {x2 : Int32} {S T : MS} {r : Int32} (h : SM_has fu x1 x2 S = some (r, T)) : Met κ.1 yX9_has [Cond.code yX9_has cX9_has 3 (some .int)] { frames := 2, cells := 0, slots := 0, locals := 46 } (xb_P κ [.ref (q 0), .int x1, .int x2] (mwS κ q S)) (xb_Qi κ r (mwS κ q T)) 0 0 κ.2.2.1 := by
  unfold SM_has at h
  obtain ⟨o, ho, e⟩ := bd_s h
  cases e
  exact c_X9_has ho
def OK_has (fu : Nat) (Rel : Nat → XS → MS → Prop) : Prop := ∀ (nn : Nat) (X : XS) (M : MS) (x1 : Int32) (x2 : Int32), Rel nn X M → ∃ (r : Int32) (X2 : XS) (M2 : MS), SX_has fu nn x1 x2 X = some (r, X2) ∧ SM_has fu x1 x2 M = some (r, M2) ∧ Rel nn X2 M2
def SX_next (fu : Nat) (nn : Nat) (x1 : Int32) (x2 : Int32) (S : XS) : Option (Int32 × XS) := (F_X8_next fu nn x1 x2 (xro_ S)).bind fun o => some (o, ((xro_ S), (xrn_ S), (xfo_ S), (xva_ S), (xts_ S), (xus_ S), (xnu_ S), (xth_ S), (xsp_ S), (xpr_ S), (xpn_ S), (xbs_ S), (xwr_ S), (xno_ S), (xki_ S), (xdi_ S), (xde_ S), (xst_ S), (xta_ S), (xcb_ S), (xcd_ S), (xbe_ S), (xli_ S), (xke_ S), (xne_ S)))
theorem cX_next {κ : xb_k} {q : Nat → Nat} {nn : Nat} {fu : Nat} {x1 : Int32} {x2 : Int32} {S T : XS} {r : Int32} (h : SX_next fu nn x1 x2 S = some (r, T)) : Met κ.1 yX8_next [Cond.code yX8_next cX8_next 3 (some .int)] { frames := 2, cells := 0, slots := 0, locals := 44 } (xb_P κ [.ref (q 0), .int x1, .int x2] (xwS κ q nn S)) (xb_Qi κ r (xwS κ q nn T)) 0 0 κ.2.2.1 := by
  unfold SX_next at h
  obtain ⟨o, ho, e⟩ := bd_s h
  cases e
  exact c_X8_next ho
def SM_next (fu : Nat) (x1 : Int32) (x2 : Int32) (S : MS) : Option (Int32 × MS) := (F_X9_next fu x1 x2 (mth_ S) (mn_ S) (mno_ S)).bind fun o => some (o.1, (o.2, (mn_ S), (mib_ S), (mpa_ S), (mwi_ S), (mch_ S), (mst_ S), (msz_ S), (mns_ S), (mld_ S), (mps_ S), (mbb_ S), (mno_ S), (mpk_ S), (mtu_ S), (mfo_ S), (mbi_ S), (mwr_ S), (mus_ S), (mnu_ S), (mli_ S), (mot_ S), (mbl_ S), (mki_ S), (mfr_ S), (mde_ S), (mbe_ S), (mow_ S), (mco_ S), (mpt_ S), (mle_ S), (mpl_ S), (mit_ S), (mro_ S), (maw_ S)))
theorem cM_next {κ : xb_k} {q : Nat → Nat} {fu : Nat} {x1 : Int32} {x2 : Int32} {S T : MS} {r : Int32} (h : SM_next fu x1 x2 S = some (r, T)) : Met κ.1 yX9_next [Cond.code yX9_next cX9_next 4 (some .int)] { frames := 2, cells := 0, slots := 0, locals := 46 } (xb_P κ [.ref (q 0), .int x1, .int x2] (mwS κ q S)) (xb_Qi κ r (mwS κ q T)) 0 0 κ.2.2.1 := by
  unfold SM_next at h
  obtain ⟨o, ho, e⟩ := bd_s h
  cases e
  exact c_X9_next ho
def OK_next (fu : Nat) (Rel : Nat → XS → MS → Prop) : Prop := ∀ (nn : Nat) (X : XS) (M : MS) (x1 : Int32) (x2 : Int32), Rel nn X M → ∃ (r : Int32) (X2 : XS) (M2 : MS), SX_next fu nn x1 x2 X = some (r, X2) ∧ SM_next fu x1 x2 M = some (r, M2) ∧ Rel nn X2 M2
def SX_degree (fu : Nat) (nn : Nat) (x1 : Int32) (x2 : Int32) (S : XS) : Option (Int32 × XS) := (F_X8_degree fu nn x1 x2 (xro_ S)).bind fun o => some (o, ((xro_ S), (xrn_ S), (xfo_ S), (xva_ S), (xts_ S), (xus_ S), (xnu_ S), (xth_ S), (xsp_ S), (xpr_ S), (xpn_ S), (xbs_ S), (xwr_ S), (xno_ S), (xki_ S), (xdi_ S), (xde_ S), (xst_ S), (xta_ S), (xcb_ S), (xcd_ S), (xbe_ S), (xli_ S), (xke_ S), (xne_ S)))
theorem cX_degree {κ : xb_k} {q : Nat → Nat} {nn : Nat} {fu : Nat} {x1 : Int32} {x2 : Int32} {S T : XS} {r : Int32} (h : SX_degree fu nn x1 x2 S = some (r, T)) : Met κ.1 yX8_degree [Cond.code yX8_degree cX8_degree 3 (some .int)] { frames := 2, cells := 0, slots := 0, locals := 46 } (xb_P κ [.ref (q 0), .int x1, .int x2] (xwS κ q nn S)) (xb_Qi κ r (xwS κ q nn T)) 0 0 κ.2.2.1 := by
  unfold SX_degree at h
  obtain ⟨o, ho, e⟩ := bd_s h
  cases e
  exact c_X8_degree ho
def SM_degree (fu : Nat) (x1 : Int32) (x2 : Int32) (S : MS) : Option (Int32 × MS) := (F_X9_degree fu x1 x2 (mth_ S) (mn_ S) (mno_ S)).bind fun o => some (o.1, (o.2, (mn_ S), (mib_ S), (mpa_ S), (mwi_ S), (mch_ S), (mst_ S), (msz_ S), (mns_ S), (mld_ S), (mps_ S), (mbb_ S), (mno_ S), (mpk_ S), (mtu_ S), (mfo_ S), (mbi_ S), (mwr_ S), (mus_ S), (mnu_ S), (mli_ S), (mot_ S), (mbl_ S), (mki_ S), (mfr_ S), (mde_ S), (mbe_ S), (mow_ S), (mco_ S), (mpt_ S), (mle_ S), (mpl_ S), (mit_ S), (mro_ S), (maw_ S)))
theorem cM_degree {κ : xb_k} {q : Nat → Nat} {fu : Nat} {x1 : Int32} {x2 : Int32} {S T : MS} {r : Int32} (h : SM_degree fu x1 x2 S = some (r, T)) : Met κ.1 yX9_degree [Cond.code yX9_degree cX9_degree 5 (some .int)] { frames := 2, cells := 0, slots := 0, locals := 46 } (xb_P κ [.ref (q 0), .int x1, .int x2] (mwS κ q S)) (xb_Qi κ r (mwS κ q T)) 0 0 κ.2.2.1 := by
  unfold SM_degree at h
  obtain ⟨o, ho, e⟩ := bd_s h
  cases e
  exact c_X9_degree ho
def OK_degree (fu : Nat) (Rel : Nat → XS → MS → Prop) : Prop := ∀ (nn : Nat) (X : XS) (M : MS) (x1 : Int32) (x2 : Int32), Rel nn X M → ∃ (r : Int32) (X2 : XS) (M2 : MS), SX_degree fu nn x1 x2 X = some (r, X2) ∧ SM_degree fu x1 x2 M = some (r, M2) ∧ Rel nn X2 M2
def SX_meet (fu : Nat) (nn : Nat) (x1 : Int32) (x2 : Int32) (S : XS) : Option (Int32 × XS) := (F_X8_meet nn x1 x2 (xro_ S)).bind fun o => some (o, ((xro_ S), (xrn_ S), (xfo_ S), (xva_ S), (xts_ S), (xus_ S), (xnu_ S), (xth_ S), (xsp_ S), (xpr_ S), (xpn_ S), (xbs_ S), (xwr_ S), (xno_ S), (xki_ S), (xdi_ S), (xde_ S), (xst_ S), (xta_ S), (xcb_ S), (xcd_ S), (xbe_ S), (xli_ S), (xke_ S), (xne_ S)))
theorem cX_meet {κ : xb_k} {q : Nat → Nat} {nn : Nat} {fu : Nat} {x1 : Int32} {x2 : Int32} {S T : XS} {r : Int32} (h : SX_meet fu nn x1 x2 S = some (r, T)) : Met κ.1 yX8_meet [Cond.code yX8_meet cX8_meet 3 (some .int)] { frames := 1, cells := 0, slots := 0, locals := 21 } (xb_P κ [.ref (q 0), .int x1, .int x2] (xwS κ q nn S)) (xb_Qi κ r (xwS κ q nn T)) 0 0 κ.2.2.1 := by
  unfold SX_meet at h
  obtain ⟨o, ho, e⟩ := bd_s h
  cases e
  exact c_X8_meet ho
def SM_meet (fu : Nat) (x1 : Int32) (x2 : Int32) (S : MS) : Option (Int32 × MS) := (F_X9_meet fu x1 x2 (mth_ S) (mn_ S) (mno_ S)).bind fun o => some (o.1, (o.2, (mn_ S), (mib_ S), (mpa_ S), (mwi_ S), (mch_ S), (mst_ S), (msz_ S), (mns_ S), (mld_ S), (mps_ S), (mbb_ S), (mno_ S), (mpk_ S), (mtu_ S), (mfo_ S), (mbi_ S), (mwr_ S), (mus_ S), (mnu_ S), (mli_ S), (mot_ S), (mbl_ S), (mki_ S), (mfr_ S), (mde_ S), (mbe_ S), (mow_ S), (mco_ S), (mpt_ S), (mle_ S), (mpl_ S), (mit_ S), (mro_ S), (maw_ S)))
theorem cM_meet {κ : xb_k} {q : Nat → Nat} {fu : Nat} {x1 : Int32} {x2 : Int32} {S T : MS} {r : Int32} (h : SM_meet fu x1 x2 S = some (r, T)) : Met κ.1 yX9_meet [Cond.code yX9_meet cX9_meet 5 (some .int)] { frames := 2, cells := 0, slots := 0, locals := 46 } (xb_P κ [.ref (q 0), .int x1, .int x2] (mwS κ q S)) (xb_Qi κ r (mwS κ q T)) 0 0 κ.2.2.1 := by
  unfold SM_meet at h
  obtain ⟨o, ho, e⟩ := bd_s h
  cases e
  exact c_X9_meet ho
def OK_meet (fu : Nat) (Rel : Nat → XS → MS → Prop) : Prop := ∀ (nn : Nat) (X : XS) (M : MS) (x1 : Int32) (x2 : Int32), Rel nn X M → ∃ (r : Int32) (X2 : XS) (M2 : MS), SX_meet fu nn x1 x2 X = some (r, X2) ∧ SM_meet fu x1 x2 M = some (r, M2) ∧ Rel nn X2 M2
def SX_back (fu : Nat) (nn : Nat) (x1 : Int32) (x2 : Int32) (S : XS) : Option (Int32 × XS) := (F_X8_back fu nn x1 x2 (xro_ S)).bind fun o => some (o, ((xro_ S), (xrn_ S), (xfo_ S), (xva_ S), (xts_ S), (xus_ S), (xnu_ S), (xth_ S), (xsp_ S), (xpr_ S), (xpn_ S), (xbs_ S), (xwr_ S), (xno_ S), (xki_ S), (xdi_ S), (xde_ S), (xst_ S), (xta_ S), (xcb_ S), (xcd_ S), (xbe_ S), (xli_ S), (xke_ S), (xne_ S)))
theorem cX_back {κ : xb_k} {q : Nat → Nat} {nn : Nat} {fu : Nat} {x1 : Int32} {x2 : Int32} {S T : XS} {r : Int32} (h : SX_back fu nn x1 x2 S = some (r, T)) : Met κ.1 yX8_back [Cond.code yX8_back cX8_back 3 (some .int)] { frames := 2, cells := 0, slots := 0, locals := 46 } (xb_P κ [.ref (q 0), .int x1, .int x2] (xwS κ q nn S)) (xb_Qi κ r (xwS κ q nn T)) 0 0 κ.2.2.1 := by
  unfold SX_back at h
  obtain ⟨o, ho, e⟩ := bd_s h
  cases e
  exact c_X8_back ho
def SM_back (fu : Nat) (x1 : Int32) (x2 : Int32) (S : MS) : Option (Int32 × MS) := (F_X9_back fu x1 x2 (mth_ S) (mn_ S) (mno_ S)).bind fun o => some (o.1, (o.2, (mn_ S), (mib_ S), (mpa_ S), (mwi_ S), (mch_ S), (mst_ S), (msz_ S), (mns_ S), (mld_ S), (mps_ S), (mbb_ S), (mno_ S), (mpk_ S), (mtu_ S), (mfo_ S), (mbi_ S), (mwr_ S), (mus_ S), (mnu_ S), (mli_ S), (mot_ S), (mbl_ S), (mki_ S), (mfr_ S), (mde_ S), (mbe_ S), (mow_ S), (mco_ S), (mpt_ S), (mle_ S), (mpl_ S), (mit_ S), (mro_ S), (maw_ S)))
theorem cM_back {κ : xb_k} {q : Nat → Nat} {fu : Nat} {x1 : Int32} {x2 : Int32} {S T : MS} {r : Int32} (h : SM_back fu x1 x2 S = some (r, T)) : Met κ.1 yX9_back [Cond.code yX9_back cX9_back 5 (some .int)] { frames := 2, cells := 0, slots := 0, locals := 46 } (xb_P κ [.ref (q 0), .int x1, .int x2] (mwS κ q S)) (xb_Qi κ r (mwS κ q T)) 0 0 κ.2.2.1 := by
  unfold SM_back at h
  obtain ⟨o, ho, e⟩ := bd_s h
  cases e
  exact c_X9_back ho
def OK_back (fu : Nat) (Rel : Nat → XS → MS → Prop) : Prop := ∀ (nn : Nat) (X : XS) (M : MS) (x1 : Int32) (x2 : Int32), Rel nn X M → ∃ (r : Int32) (X2 : XS) (M2 : MS), SX_back fu nn x1 x2 X = some (r, X2) ∧ SM_back fu x1 x2 M = some (r, M2) ∧ Rel nn X2 M2
def SX_form (fu : Nat) (nn : Nat) (x1 : Int32) (x2 : Int32) (S : XS) : Option (Int32 × XS) := (F_X8_form x1 x2 (xfo_ S)).bind fun o => some (o.1, ((xro_ S), (xrn_ S), o.2, (xva_ S), (xts_ S), (xus_ S), (xnu_ S), (xth_ S), (xsp_ S), (xpr_ S), (xpn_ S), (xbs_ S), (xwr_ S), (xno_ S), (xki_ S), (xdi_ S), (xde_ S), (xst_ S), (xta_ S), (xcb_ S), (xcd_ S), (xbe_ S), (xli_ S), (xke_ S), (xne_ S)))
theorem cX_form {κ : xb_k} {q : Nat → Nat} {nn : Nat} {fu : Nat} {x1 : Int32} {x2 : Int32} {S T : XS} {r : Int32} (h : SX_form fu nn x1 x2 S = some (r, T)) : Met κ.1 yX8_form [Cond.code yX8_form cX8_form 4 (some .int)] { frames := 2, cells := 0, slots := 0, locals := 42 } (xb_P κ [.ref (q 0), .int x1, .int x2] (xwS κ q nn S)) (xb_Qi κ r (xwS κ q nn T)) 0 0 κ.2.2.1 := by
  unfold SX_form at h
  obtain ⟨o, ho, e⟩ := bd_s h
  cases e
  exact c_X8_form ho
def SM_form (fu : Nat) (x1 : Int32) (x2 : Int32) (S : MS) : Option (Int32 × MS) := (F_X9_form x1 x2 (mth_ S) (mfo_ S)).bind fun o => some (o.1, (o.2.1, (mn_ S), (mib_ S), (mpa_ S), (mwi_ S), (mch_ S), (mst_ S), (msz_ S), (mns_ S), (mld_ S), (mps_ S), (mbb_ S), (mno_ S), (mpk_ S), (mtu_ S), o.2.2, (mbi_ S), (mwr_ S), (mus_ S), (mnu_ S), (mli_ S), (mot_ S), (mbl_ S), (mki_ S), (mfr_ S), (mde_ S), (mbe_ S), (mow_ S), (mco_ S), (mpt_ S), (mle_ S), (mpl_ S), (mit_ S), (mro_ S), (maw_ S)))
theorem cM_form {κ : xb_k} {q : Nat → Nat} {fu : Nat} {x1 : Int32} {x2 : Int32} {S T : MS} {r : Int32} (h : SM_form fu x1 x2 S = some (r, T)) : Met κ.1 yX9_form [Cond.code yX9_form cX9_form 4 (some .int)] { frames := 1, cells := 0, slots := 0, locals := 25 } (xb_P κ [.ref (q 0), .int x1, .int x2] (mwS κ q S)) (xb_Qi κ r (mwS κ q T)) 0 0 κ.2.2.1 := by
  unfold SM_form at h
  obtain ⟨o, ho, e⟩ := bd_s h
  cases e
  exact c_X9_form ho
def OK_form (fu : Nat) (Rel : Nat → XS → MS → Prop) : Prop := ∀ (nn : Nat) (X : XS) (M : MS) (x1 : Int32) (x2 : Int32), Rel nn X M → ∃ (r : Int32) (X2 : XS) (M2 : MS), SX_form fu nn x1 x2 X = some (r, X2) ∧ SM_form fu x1 x2 M = some (r, M2) ∧ Rel nn X2 M2
def SX_setting (fu : Nat) (nn : Nat) (x1 : Int32) (x2 : Int32) (S : XS) : Option (Int32 × XS) := (F_X8_setting x1 x2 (xva_ S)).bind fun o => some (o.1, ((xro_ S), (xrn_ S), (xfo_ S), o.2, (xts_ S), (xus_ S), (xnu_ S), (xth_ S), (xsp_ S), (xpr_ S), (xpn_ S), (xbs_ S), (xwr_ S), (xno_ S), (xki_ S), (xdi_ S), (xde_ S), (xst_ S), (xta_ S), (xcb_ S), (xcd_ S), (xbe_ S), (xli_ S), (xke_ S), (xne_ S)))
theorem cX_setting {κ : xb_k} {q : Nat → Nat} {nn : Nat} {fu : Nat} {x1 : Int32} {x2 : Int32} {S T : XS} {r : Int32} (h : SX_setting fu nn x1 x2 S = some (r, T)) : Met κ.1 yX8_setting [Cond.code yX8_setting cX8_setting 4 (some .int)] { frames := 2, cells := 0, slots := 0, locals := 43 } (xb_P κ [.ref (q 0), .int x1, .int x2] (xwS κ q nn S)) (xb_Qi κ r (xwS κ q nn T)) 0 0 κ.2.2.1 := by
  unfold SX_setting at h
  obtain ⟨o, ho, e⟩ := bd_s h
  cases e
  exact c_X8_setting ho
def SM_setting (fu : Nat) (x1 : Int32) (x2 : Int32) (S : MS) : Option (Int32 × MS) := (F_X9_setting x1 x2 (mth_ S) (mst_ S) (mch_ S) (mwi_ S)).bind fun o => some (o.1, (o.2.1, (mn_ S), (mib_ S), (mpa_ S), o.2.2.2.2, o.2.2.2.1, o.2.2.1, (msz_ S), (mns_ S), (mld_ S), (mps_ S), (mbb_ S), (mno_ S), (mpk_ S), (mtu_ S), (mfo_ S), (mbi_ S), (mwr_ S), (mus_ S), (mnu_ S), (mli_ S), (mot_ S), (mbl_ S), (mki_ S), (mfr_ S), (mde_ S), (mbe_ S), (mow_ S), (mco_ S), (mpt_ S), (mle_ S), (mpl_ S), (mit_ S), (mro_ S), (maw_ S)))
theorem cM_setting {κ : xb_k} {q : Nat → Nat} {fu : Nat} {x1 : Int32} {x2 : Int32} {S T : MS} {r : Int32} (h : SM_setting fu x1 x2 S = some (r, T)) : Met κ.1 yX9_setting [Cond.code yX9_setting cX9_setting 4 (some .int)] { frames := 1, cells := 0, slots := 0, locals := 25 } (xb_P κ [.ref (q 0), .int x1, .int x2] (mwS κ q S)) (xb_Qi κ r (mwS κ q T)) 0 0 κ.2.2.1 := by
  unfold SM_setting at h
  obtain ⟨o, ho, e⟩ := bd_s h
  cases e
  exact c_X9_setting ho
def OK_setting (fu : Nat) (Rel : Nat → XS → MS → Prop) : Prop := ∀ (nn : Nat) (X : XS) (M : MS) (x1 : Int32) (x2 : Int32), Rel nn X M → ∃ (r : Int32) (X2 : XS) (M2 : MS), SX_setting fu nn x1 x2 X = some (r, X2) ∧ SM_setting fu x1 x2 M = some (r, M2) ∧ Rel nn X2 M2
def SX_length (fu : Nat) (nn : Nat) (x1 : Int32) (x2 : Int32) (S : XS) : Option (Int32 × XS) := (F_X8_length fu x1 x2).bind fun o => some (o, ((xro_ S), (xrn_ S), (xfo_ S), (xva_ S), (xts_ S), (xus_ S), (xnu_ S), (xth_ S), (xsp_ S), (xpr_ S), (xpn_ S), (xbs_ S), (xwr_ S), (xno_ S), (xki_ S), (xdi_ S), (xde_ S), (xst_ S), (xta_ S), (xcb_ S), (xcd_ S), (xbe_ S), (xli_ S), (xke_ S), (xne_ S)))
theorem cX_length {κ : xb_k} {q : Nat → Nat} {nn : Nat} {fu : Nat} {x1 : Int32} {x2 : Int32} {S T : XS} {r : Int32} (h : SX_length fu nn x1 x2 S = some (r, T)) : Met κ.1 yX8_length [Cond.code yX8_length cX8_length 3 (some .int)] { frames := 2, cells := 0, slots := 0, locals := 44 } (xb_P κ [.ref (q 0), .int x1, .int x2] (xwS κ q nn S)) (xb_Qi κ r (xwS κ q nn T)) 0 0 κ.2.2.1 := by
  unfold SX_length at h
  obtain ⟨o, ho, e⟩ := bd_s h
  cases e
  exact c_X8_length ho
def SM_length (fu : Nat) (x1 : Int32) (x2 : Int32) (S : MS) : Option (Int32 × MS) := (F_X9_length fu x1 x2 (mth_ S)).bind fun o => some (o.1, (o.2, (mn_ S), (mib_ S), (mpa_ S), (mwi_ S), (mch_ S), (mst_ S), (msz_ S), (mns_ S), (mld_ S), (mps_ S), (mbb_ S), (mno_ S), (mpk_ S), (mtu_ S), (mfo_ S), (mbi_ S), (mwr_ S), (mus_ S), (mnu_ S), (mli_ S), (mot_ S), (mbl_ S), (mki_ S), (mfr_ S), (mde_ S), (mbe_ S), (mow_ S), (mco_ S), (mpt_ S), (mle_ S), (mpl_ S), (mit_ S), (mro_ S), (maw_ S)))
theorem cM_length {κ : xb_k} {q : Nat → Nat} {fu : Nat} {x1 : Int32} {x2 : Int32} {S T : MS} {r : Int32} (h : SM_length fu x1 x2 S = some (r, T)) : Met κ.1 yX9_length [Cond.code yX9_length cX9_length 3 (some .int)] { frames := 2, cells := 0, slots := 0, locals := 44 } (xb_P κ [.ref (q 0), .int x1, .int x2] (mwS κ q S)) (xb_Qi κ r (mwS κ q T)) 0 0 κ.2.2.1 := by
  unfold SM_length at h
  obtain ⟨o, ho, e⟩ := bd_s h
  cases e
  exact c_X9_length ho
def OK_length (fu : Nat) (Rel : Nat → XS → MS → Prop) : Prop := ∀ (nn : Nat) (X : XS) (M : MS) (x1 : Int32) (x2 : Int32), Rel nn X M → ∃ (r : Int32) (X2 : XS) (M2 : MS), SX_length fu nn x1 x2 X = some (r, X2) ∧ SM_length fu x1 x2 M = some (r, M2) ∧ Rel nn X2 M2
def SX_cost (fu : Nat) (nn : Nat) (x1 : Int32) (x2 : Int32) (x3 : Int32) (S : XS) : Option (Int32 × XS) := (F_X8_cost fu nn x1 x2 x3 (xro_ S) (xts_ S) (xus_ S) (xnu_ S) (xfo_ S)).bind fun o => some (o.1, ((xro_ S), (xrn_ S), (xfo_ S), (xva_ S), o.2.1, o.2.2.1, o.2.2.2, (xth_ S), (xsp_ S), (xpr_ S), (xpn_ S), (xbs_ S), (xwr_ S), (xno_ S), (xki_ S), (xdi_ S), (xde_ S), (xst_ S), (xta_ S), (xcb_ S), (xcd_ S), (xbe_ S), (xli_ S), (xke_ S), (xne_ S)))
theorem cX_cost {κ : xb_k} {q : Nat → Nat} {nn : Nat} {fu : Nat} {x1 : Int32} {x2 : Int32} {x3 : Int32} {S T : XS} {r : Int32} (h : SX_cost fu nn x1 x2 x3 S = some (r, T)) : Met κ.1 yX8_cost [Cond.code yX8_cost cX8_cost 5 (some .int)] { frames := 5, cells := 0, slots := 0, locals := 126 } (xb_P κ [.ref (q 0), .int x1, .int x2, .int x3] (xwS κ q nn S)) (xb_Qi κ r (xwS κ q nn T)) 0 0 κ.2.2.1 := by
  unfold SX_cost at h
  obtain ⟨o, ho, e⟩ := bd_s h
  cases e
  exact c_X8_cost ho
def SM_cost (fu : Nat) (x1 : Int32) (x2 : Int32) (x3 : Int32) (S : MS) : Option (Int32 × MS) := (F_X9_cost fu x1 x2 x3 (mth_ S) (mn_ S) (mns_ S) (mus_ S) (mnu_ S) (mld_ S) (mno_ S) (mli_ S) (mot_ S) (mbl_ S) (mfo_ S)).bind fun o => some (o.1, (o.2.1, (mn_ S), (mib_ S), (mpa_ S), (mwi_ S), (mch_ S), (mst_ S), (msz_ S), o.2.2.1, o.2.2.2.2.2.1, (mps_ S), (mbb_ S), (mno_ S), (mpk_ S), (mtu_ S), (mfo_ S), (mbi_ S), (mwr_ S), o.2.2.2.1, o.2.2.2.2.1, o.2.2.2.2.2.2.1, o.2.2.2.2.2.2.2.1, o.2.2.2.2.2.2.2.2, (mki_ S), (mfr_ S), (mde_ S), (mbe_ S), (mow_ S), (mco_ S), (mpt_ S), (mle_ S), (mpl_ S), (mit_ S), (mro_ S), (maw_ S)))
theorem cM_cost {κ : xb_k} {q : Nat → Nat} {fu : Nat} {x1 : Int32} {x2 : Int32} {x3 : Int32} {S T : MS} {r : Int32} (h : SM_cost fu x1 x2 x3 S = some (r, T)) : Met κ.1 yX9_cost [Cond.code yX9_cost cX9_cost 5 (some .int)] { frames := 6, cells := 0, slots := 0, locals := 146 } (xb_P κ [.ref (q 0), .int x1, .int x2, .int x3] (mwS κ q S)) (xb_Qi κ r (mwS κ q T)) 0 0 κ.2.2.1 := by
  unfold SM_cost at h
  obtain ⟨o, ho, e⟩ := bd_s h
  cases e
  exact c_X9_cost ho
def OK_cost (fu : Nat) (Rel : Nat → XS → MS → Prop) : Prop := ∀ (nn : Nat) (X : XS) (M : MS) (x1 : Int32) (x2 : Int32) (x3 : Int32), Rel nn X M → ∃ (r : Int32) (X2 : XS) (M2 : MS), SX_cost fu nn x1 x2 x3 X = some (r, X2) ∧ SM_cost fu x1 x2 x3 M = some (r, M2) ∧ Rel nn X2 M2
def SX_pack (fu : Nat) (nn : Nat) (S : XS) : Option (Int32 × XS) := (F_X8_pack fu nn (xro_ S) (xpr_ S) (xva_ S) (xsp_ S) (xta_ S) (xts_ S) (xus_ S) (xnu_ S) (xfo_ S) (xki_ S) (xdi_ S) (xde_ S) (xth_ S) (xwr_ S) (xno_ S) (xbs_ S) (xst_ S)).bind fun o => some (o.1, ((xro_ S), (xrn_ S), (xfo_ S), (xva_ S), o.2.2.2.2.1, o.2.2.2.2.2.1, o.2.2.2.2.2.2.1, o.2.2.2.2.2.2.2.2.2.2.1, o.2.2.1, o.2.1, (xpn_ S), o.2.2.2.2.2.2.2.2.2.2.2.2.2.1, o.2.2.2.2.2.2.2.2.2.2.2.1, o.2.2.2.2.2.2.2.2.2.2.2.2.1, o.2.2.2.2.2.2.2.1, o.2.2.2.2.2.2.2.2.1, o.2.2.2.2.2.2.2.2.2.1, o.2.2.2.2.2.2.2.2.2.2.2.2.2.2, o.2.2.2.1, (xcb_ S), (xcd_ S), (xbe_ S), (xli_ S), (xke_ S), (xne_ S)))
theorem cX_pack {κ : xb_k} {q : Nat → Nat} {nn : Nat} {fu : Nat} {S T : XS} {r : Int32} (h : SX_pack fu nn S = some (r, T)) : Met κ.1 yX8_pack [Cond.code yX8_pack cX8_pack 1 (some .int)] { frames := 7, cells := 0, slots := 0, locals := 180 } (xb_P κ [.ref (q 0)] (xwS κ q nn S)) (xb_Qi κ r (xwS κ q nn T)) 0 0 κ.2.2.1 := by
  unfold SX_pack at h
  obtain ⟨o, ho, e⟩ := bd_s h
  cases e
  exact c_X8_pack ho
def SM_pack (fu : Nat) (S : MS) : Option (Int32 × MS) := (F_X9_pack fu (mth_ S) (mno_ S) (mpk_ S) (mib_ S) (mpa_ S) (mst_ S) (mps_ S) (msz_ S) (mn_ S) (mbb_ S) (mns_ S) (mus_ S) (mnu_ S) (mld_ S) (mli_ S) (mot_ S) (mbl_ S) (mfo_ S) (mki_ S) (mfr_ S) (mde_ S) (mwi_ S) (mch_ S) (mbe_ S) (mbi_ S) (mwr_ S)).bind fun o => some (o.1, (o.2.1, (mn_ S), o.2.2.2.1, o.2.2.2.2.1, (mwi_ S), (mch_ S), (mst_ S), o.2.2.2.2.2.2.1, o.2.2.2.2.2.2.2.2.1, o.2.2.2.2.2.2.2.2.2.2.2.1, o.2.2.2.2.2.1, o.2.2.2.2.2.2.2.1, (mno_ S), o.2.2.1, (mtu_ S), (mfo_ S), o.2.2.2.2.2.2.2.2.2.2.2.2.2.2.2.2.2.2.2.1, o.2.2.2.2.2.2.2.2.2.2.2.2.2.2.2.2.2.2.2.2, o.2.2.2.2.2.2.2.2.2.1, o.2.2.2.2.2.2.2.2.2.2.1, o.2.2.2.2.2.2.2.2.2.2.2.2.1, o.2.2.2.2.2.2.2.2.2.2.2.2.2.1, o.2.2.2.2.2.2.2.2.2.2.2.2.2.2.1, o.2.2.2.2.2.2.2.2.2.2.2.2.2.2.2.1, o.2.2.2.2.2.2.2.2.2.2.2.2.2.2.2.2.1, o.2.2.2.2.2.2.2.2.2.2.2.2.2.2.2.2.2.1, o.2.2.2.2.2.2.2.2.2.2.2.2.2.2.2.2.2.2.1, (mow_ S), (mco_ S), (mpt_ S), (mle_ S), (mpl_ S), (mit_ S), (mro_ S), (maw_ S)))
theorem cM_pack {κ : xb_k} {q : Nat → Nat} {fu : Nat} {S T : MS} {r : Int32} (h : SM_pack fu S = some (r, T)) : Met κ.1 yX9_pack [Cond.code yX9_pack cX9_pack 2 (some .int)] { frames := 8, cells := 0, slots := 0, locals := 195 } (xb_P κ [.ref (q 0)] (mwS κ q S)) (xb_Qi κ r (mwS κ q T)) 0 0 κ.2.2.1 := by
  unfold SM_pack at h
  obtain ⟨o, ho, e⟩ := bd_s h
  cases e
  exact c_X9_pack ho
def OK_pack (fu : Nat) (Rel : Nat → XS → MS → Prop) : Prop := ∀ (nn : Nat) (X : XS) (M : MS), Rel nn X M → ∃ (r : Int32) (X2 : XS) (M2 : MS), SX_pack fu nn X = some (r, X2) ∧ SM_pack fu M = some (r, M2) ∧ Rel nn X2 M2
def SX_told (fu : Nat) (nn : Nat) (x1 : Int32) (x2 : Int32) (S : XS) : Option (Int32 × XS) := (F_X8_told nn x1 x2 (xth_ S) (xki_ S) (xdi_ S) (xde_ S) (xst_ S)).bind fun o => some (o, ((xro_ S), (xrn_ S), (xfo_ S), (xva_ S), (xts_ S), (xus_ S), (xnu_ S), (xth_ S), (xsp_ S), (xpr_ S), (xpn_ S), (xbs_ S), (xwr_ S), (xno_ S), (xki_ S), (xdi_ S), (xde_ S), (xst_ S), (xta_ S), (xcb_ S), (xcd_ S), (xbe_ S), (xli_ S), (xke_ S), (xne_ S)))
theorem cX_told {κ : xb_k} {q : Nat → Nat} {nn : Nat} {fu : Nat} {x1 : Int32} {x2 : Int32} {S T : XS} {r : Int32} (h : SX_told fu nn x1 x2 S = some (r, T)) : Met κ.1 yX8_told [Cond.code yX8_told cX8_told 3 (some .int)] { frames := 2, cells := 0, slots := 0, locals := 42 } (xb_P κ [.ref (q 0), .int x1, .int x2] (xwS κ q nn S)) (xb_Qi κ r (xwS κ q nn T)) 0 0 κ.2.2.1 := by
  unfold SX_told at h
  obtain ⟨o, ho, e⟩ := bd_s h
  cases e
  exact c_X8_told ho
def SM_told (fu : Nat) (x1 : Int32) (x2 : Int32) (S : MS) : Option (Int32 × MS) := (F_X9_told x1 x2 (mth_ S) (mn_ S) (mib_ S) (mbe_ S) (mde_ S) (mfr_ S) (mki_ S)).bind fun o => some (o.1, (o.2, (mn_ S), (mib_ S), (mpa_ S), (mwi_ S), (mch_ S), (mst_ S), (msz_ S), (mns_ S), (mld_ S), (mps_ S), (mbb_ S), (mno_ S), (mpk_ S), (mtu_ S), (mfo_ S), (mbi_ S), (mwr_ S), (mus_ S), (mnu_ S), (mli_ S), (mot_ S), (mbl_ S), (mki_ S), (mfr_ S), (mde_ S), (mbe_ S), (mow_ S), (mco_ S), (mpt_ S), (mle_ S), (mpl_ S), (mit_ S), (mro_ S), (maw_ S)))
theorem cM_told {κ : xb_k} {q : Nat → Nat} {fu : Nat} {x1 : Int32} {x2 : Int32} {S T : MS} {r : Int32} (h : SM_told fu x1 x2 S = some (r, T)) : Met κ.1 yX9_told [Cond.code yX9_told cX9_told 3 (some .int)] { frames := 2, cells := 0, slots := 0, locals := 46 } (xb_P κ [.ref (q 0), .int x1, .int x2] (mwS κ q S)) (xb_Qi κ r (mwS κ q T)) 0 0 κ.2.2.1 := by
  unfold SM_told at h
  obtain ⟨o, ho, e⟩ := bd_s h
  cases e
  exact c_X9_told ho
def OK_told (fu : Nat) (Rel : Nat → XS → MS → Prop) : Prop := ∀ (nn : Nat) (X : XS) (M : MS) (x1 : Int32) (x2 : Int32), Rel nn X M → ∃ (r : Int32) (X2 : XS) (M2 : MS), SX_told fu nn x1 x2 X = some (r, X2) ∧ SM_told fu x1 x2 M = some (r, M2) ∧ Rel nn X2 M2
def SX_looked (fu : Nat) (nn : Nat) (x1 : Int32) (S : XS) : Option (Int32 × XS) := (F_X8_looked fu nn x1 (xth_ S) (xst_ S) (xsp_ S) (xki_ S) (xdi_ S)).bind fun o => some (o, ((xro_ S), (xrn_ S), (xfo_ S), (xva_ S), (xts_ S), (xus_ S), (xnu_ S), (xth_ S), (xsp_ S), (xpr_ S), (xpn_ S), (xbs_ S), (xwr_ S), (xno_ S), (xki_ S), (xdi_ S), (xde_ S), (xst_ S), (xta_ S), (xcb_ S), (xcd_ S), (xbe_ S), (xli_ S), (xke_ S), (xne_ S)))
theorem cX_looked {κ : xb_k} {q : Nat → Nat} {nn : Nat} {fu : Nat} {x1 : Int32} {S T : XS} {r : Int32} (h : SX_looked fu nn x1 S = some (r, T)) : Met κ.1 yX8_looked [Cond.code yX8_looked cX8_looked 2 (some .int)] { frames := 3, cells := 0, slots := 0, locals := 66 } (xb_P κ [.ref (q 0), .int x1] (xwS κ q nn S)) (xb_Qi κ r (xwS κ q nn T)) 0 0 κ.2.2.1 := by
  unfold SX_looked at h
  obtain ⟨o, ho, e⟩ := bd_s h
  cases e
  exact c_X8_looked ho
def SM_looked (fu : Nat) (x1 : Int32) (S : MS) : Option (Int32 × MS) := (F_X9_looked fu x1 (mth_ S) (mn_ S) (mib_ S) (mbe_ S) (mps_ S) (mfr_ S)).bind fun o => some (o.1, (o.2, (mn_ S), (mib_ S), (mpa_ S), (mwi_ S), (mch_ S), (mst_ S), (msz_ S), (mns_ S), (mld_ S), (mps_ S), (mbb_ S), (mno_ S), (mpk_ S), (mtu_ S), (mfo_ S), (mbi_ S), (mwr_ S), (mus_ S), (mnu_ S), (mli_ S), (mot_ S), (mbl_ S), (mki_ S), (mfr_ S), (mde_ S), (mbe_ S), (mow_ S), (mco_ S), (mpt_ S), (mle_ S), (mpl_ S), (mit_ S), (mro_ S), (maw_ S)))
theorem cM_looked {κ : xb_k} {q : Nat → Nat} {fu : Nat} {x1 : Int32} {S T : MS} {r : Int32} (h : SM_looked fu x1 S = some (r, T)) : Met κ.1 yX9_looked [Cond.code yX9_looked cX9_looked 5 (some .int)] { frames := 2, cells := 0, slots := 0, locals := 46 } (xb_P κ [.ref (q 0), .int x1] (mwS κ q S)) (xb_Qi κ r (mwS κ q T)) 0 0 κ.2.2.1 := by
  unfold SM_looked at h
  obtain ⟨o, ho, e⟩ := bd_s h
  cases e
  exact c_X9_looked ho
def OK_looked (fu : Nat) (Rel : Nat → XS → MS → Prop) : Prop := ∀ (nn : Nat) (X : XS) (M : MS) (x1 : Int32), Rel nn X M → ∃ (r : Int32) (X2 : XS) (M2 : MS), SX_looked fu nn x1 X = some (r, X2) ∧ SM_looked fu x1 M = some (r, M2) ∧ Rel nn X2 M2
def SX_would (fu : Nat) (nn : Nat) (x1 : Int32) (x2 : Int32) (S : XS) : Option (Int32 × XS) := (F_X8_would fu x1 x2 (xth_ S) (xta_ S)).bind fun o => some (o, ((xro_ S), (xrn_ S), (xfo_ S), (xva_ S), (xts_ S), (xus_ S), (xnu_ S), (xth_ S), (xsp_ S), (xpr_ S), (xpn_ S), (xbs_ S), (xwr_ S), (xno_ S), (xki_ S), (xdi_ S), (xde_ S), (xst_ S), (xta_ S), (xcb_ S), (xcd_ S), (xbe_ S), (xli_ S), (xke_ S), (xne_ S)))
theorem cX_would {κ : xb_k} {q : Nat → Nat} {nn : Nat} {fu : Nat} {x1 : Int32} {x2 : Int32} {S T : XS} {r : Int32} (h : SX_would fu nn x1 x2 S = some (r, T)) : Met κ.1 yX8_would [Cond.code yX8_would cX8_would 3 (some .int)] { frames := 3, cells := 0, slots := 0, locals := 68 } (xb_P κ [.ref (q 0), .int x1, .int x2] (xwS κ q nn S)) (xb_Qi κ r (xwS κ q nn T)) 0 0 κ.2.2.1 := by
  unfold SX_would at h
  obtain ⟨o, ho, e⟩ := bd_s h
  cases e
  exact c_X8_would ho
def SM_would (fu : Nat) (x1 : Int32) (x2 : Int32) (S : MS) : Option (Int32 × MS) := (F_X9_would fu x1 x2 (mth_ S) (mib_ S) (mn_ S) (mki_ S) (mfr_ S) (mns_ S) (mus_ S) (mnu_ S) (mld_ S) (mpk_ S) (mli_ S) (mot_ S) (mbl_ S)).bind fun o => some (o.1, (o.2.1, (mn_ S), (mib_ S), (mpa_ S), (mwi_ S), (mch_ S), (mst_ S), (msz_ S), o.2.2.1, o.2.2.2.2.2.1, (mps_ S), (mbb_ S), (mno_ S), (mpk_ S), (mtu_ S), (mfo_ S), (mbi_ S), (mwr_ S), o.2.2.2.1, o.2.2.2.2.1, o.2.2.2.2.2.2.1, o.2.2.2.2.2.2.2.1, o.2.2.2.2.2.2.2.2, (mki_ S), (mfr_ S), (mde_ S), (mbe_ S), (mow_ S), (mco_ S), (mpt_ S), (mle_ S), (mpl_ S), (mit_ S), (mro_ S), (maw_ S)))
theorem cM_would {κ : xb_k} {q : Nat → Nat} {fu : Nat} {x1 : Int32} {x2 : Int32} {S T : MS} {r : Int32} (h : SM_would fu x1 x2 S = some (r, T)) : Met κ.1 yX9_would [Cond.code yX9_would cX9_would 3 (some .int)] { frames := 6, cells := 0, slots := 0, locals := 147 } (xb_P κ [.ref (q 0), .int x1, .int x2] (mwS κ q S)) (xb_Qi κ r (mwS κ q T)) 0 0 κ.2.2.1 := by
  unfold SM_would at h
  obtain ⟨o, ho, e⟩ := bd_s h
  cases e
  exact c_X9_would ho
def OK_would (fu : Nat) (Rel : Nat → XS → MS → Prop) : Prop := ∀ (nn : Nat) (X : XS) (M : MS) (x1 : Int32) (x2 : Int32), Rel nn X M → ∃ (r : Int32) (X2 : XS) (M2 : MS), SX_would fu nn x1 x2 X = some (r, X2) ∧ SM_would fu x1 x2 M = some (r, M2) ∧ Rel nn X2 M2
def SX_forms (fu : Nat) (nn : Nat) (S : XS) : Option (Int32 × XS) := (F_X8_forms fu nn (xth_ S) (xpr_ S) (xro_ S) (xta_ S) (xfo_ S) (xwr_ S) (xno_ S) (xbs_ S) (xst_ S) (xki_ S) (xdi_ S) (xts_ S) (xus_ S) (xnu_ S)).bind fun o => some (o.1, ((xro_ S), (xrn_ S), o.2.1, (xva_ S), o.2.2.2.2.2.2.1, o.2.2.2.2.2.2.2.1, o.2.2.2.2.2.2.2.2, (xth_ S), (xsp_ S), (xpr_ S), (xpn_ S), o.2.2.2.2.1, o.2.2.1, o.2.2.2.1, (xki_ S), (xdi_ S), (xde_ S), o.2.2.2.2.2.1, (xta_ S), (xcb_ S), (xcd_ S), (xbe_ S), (xli_ S), (xke_ S), (xne_ S)))
theorem cX_forms {κ : xb_k} {q : Nat → Nat} {nn : Nat} {fu : Nat} {S T : XS} {r : Int32} (h : SX_forms fu nn S = some (r, T)) : Met κ.1 yX8_forms [Cond.code yX8_forms cX8_forms 2 (some .int)] { frames := 6, cells := 0, slots := 0, locals := 140 } (xb_P κ [.ref (q 0)] (xwS κ q nn S)) (xb_Qi κ r (xwS κ q nn T)) 0 0 κ.2.2.1 := by
  unfold SX_forms at h
  obtain ⟨o, ho, e⟩ := bd_s h
  cases e
  exact c_X8_forms ho
def SM_forms (fu : Nat) (S : MS) : Option (Int32 × MS) := (F_X9_forms fu (mth_ S) (mib_ S) (mpa_ S) (mn_ S) (mki_ S) (mfr_ S) (mns_ S) (mus_ S) (mnu_ S) (mld_ S) (mpk_ S) (mli_ S) (mot_ S) (mbl_ S) (mfo_ S) (msz_ S) (mbe_ S) (mbi_ S) (mwr_ S)).bind fun o => some (o.1, (o.2.1, (mn_ S), (mib_ S), (mpa_ S), (mwi_ S), (mch_ S), (mst_ S), o.2.2.2.2.2.2.2.2.2.2.1, o.2.2.1, o.2.2.2.2.2.1, (mps_ S), (mbb_ S), (mno_ S), (mpk_ S), (mtu_ S), o.2.2.2.2.2.2.2.2.2.1, o.2.2.2.2.2.2.2.2.2.2.2.2.1, o.2.2.2.2.2.2.2.2.2.2.2.2.2, o.2.2.2.1, o.2.2.2.2.1, o.2.2.2.2.2.2.1, o.2.2.2.2.2.2.2.1, o.2.2.2.2.2.2.2.2.1, (mki_ S), (mfr_ S), (mde_ S), o.2.2.2.2.2.2.2.2.2.2.2.1, (mow_ S), (mco_ S), (mpt_ S), (mle_ S), (mpl_ S), (mit_ S), (mro_ S), (maw_ S)))
theorem cM_forms {κ : xb_k} {q : Nat → Nat} {fu : Nat} {S T : MS} {r : Int32} (h : SM_forms fu S = some (r, T)) : Met κ.1 yX9_forms [Cond.code yX9_forms cX9_forms 4 (some .int)] { frames := 6, cells := 0, slots := 0, locals := 147 } (xb_P κ [.ref (q 0)] (mwS κ q S)) (xb_Qi κ r (mwS κ q T)) 0 0 κ.2.2.1 := by
  unfold SM_forms at h
  obtain ⟨o, ho, e⟩ := bd_s h
  cases e
  exact c_X9_forms ho
def OK_forms (fu : Nat) (Rel : Nat → XS → MS → Prop) : Prop := ∀ (nn : Nat) (X : XS) (M : MS), Rel nn X M → ∃ (r : Int32) (X2 : XS) (M2 : MS), SX_forms fu nn X = some (r, X2) ∧ SM_forms fu M = some (r, M2) ∧ Rel nn X2 M2
def SX_best (fu : Nat) (nn : Nat) (S : XS) : Option (Int32 × XS) := (F_X8_best fu nn (xbe_ S) (xva_ S) (xro_ S) (xts_ S) (xus_ S) (xnu_ S) (xfo_ S) (xcb_ S) (xcd_ S)).bind fun o => some (o.1, ((xro_ S), (xrn_ S), (xfo_ S), (xva_ S), o.2.2.1, o.2.2.2.1, o.2.2.2.2.1, (xth_ S), (xsp_ S), (xpr_ S), (xpn_ S), (xbs_ S), (xwr_ S), (xno_ S), (xki_ S), (xdi_ S), (xde_ S), (xst_ S), (xta_ S), o.2.2.2.2.2.1, o.2.2.2.2.2.2, o.2.1, (xli_ S), (xke_ S), (xne_ S)))
theorem cX_best {κ : xb_k} {q : Nat → Nat} {nn : Nat} {fu : Nat} {S T : XS} {r : Int32} (h : SX_best fu nn S = some (r, T)) : Met κ.1 yX8_best [Cond.code yX8_best cX8_best 1 (some .int)] { frames := 7, cells := 0, slots := 0, locals := 181 } (xb_P κ [.ref (q 0)] (xwS κ q nn S)) (xb_Qi κ r (xwS κ q nn T)) 0 0 κ.2.2.1 := by
  unfold SX_best at h
  obtain ⟨o, ho, e⟩ := bd_s h
  cases e
  exact c_X8_best ho
def SM_best (fu : Nat) (S : MS) : Option (Int32 × MS) := (F_X9_best fu (mth_ S) (mn_ S) (mns_ S) (mus_ S) (mnu_ S) (mld_ S) (mno_ S) (mli_ S) (mot_ S) (mbl_ S) (mfo_ S) (mow_ S) (mpt_ S) (mco_ S) (mwi_ S) (mch_ S) (mle_ S)).bind fun o => some (o.1, (o.2.1, (mn_ S), (mib_ S), (mpa_ S), (mwi_ S), (mch_ S), (mst_ S), (msz_ S), o.2.2.1, o.2.2.2.2.2.1, (mps_ S), (mbb_ S), (mno_ S), (mpk_ S), (mtu_ S), (mfo_ S), (mbi_ S), (mwr_ S), o.2.2.2.1, o.2.2.2.2.1, o.2.2.2.2.2.2.1, o.2.2.2.2.2.2.2.1, o.2.2.2.2.2.2.2.2.1, (mki_ S), (mfr_ S), (mde_ S), (mbe_ S), o.2.2.2.2.2.2.2.2.2.1, o.2.2.2.2.2.2.2.2.2.2.2.1, o.2.2.2.2.2.2.2.2.2.2.1, o.2.2.2.2.2.2.2.2.2.2.2.2, (mpl_ S), (mit_ S), (mro_ S), (maw_ S)))
theorem cM_best {κ : xb_k} {q : Nat → Nat} {fu : Nat} {S T : MS} {r : Int32} (h : SM_best fu S = some (r, T)) : Met κ.1 yX9_best [Cond.code yX9_best cX9_best 7 (some .int)] { frames := 7, cells := 0, slots := 0, locals := 173 } (xb_P κ [.ref (q 0)] (mwS κ q S)) (xb_Qi κ r (mwS κ q T)) 0 0 κ.2.2.1 := by
  unfold SM_best at h
  obtain ⟨o, ho, e⟩ := bd_s h
  cases e
  exact c_X9_best ho
def OK_best (fu : Nat) (Rel : Nat → XS → MS → Prop) : Prop := ∀ (nn : Nat) (X : XS) (M : MS), Rel nn X M → ∃ (r : Int32) (X2 : XS) (M2 : MS), SX_best fu nn X = some (r, X2) ∧ SM_best fu M = some (r, M2) ∧ Rel nn X2 M2
def SX_bit (fu : Nat) (nn : Nat) (x1 : Int32) (S : XS) : Option (Int32 × XS) := (F_X8_bit nn x1 (xth_ S) (xbs_ S) (xno_ S)).bind fun o => some (o, ((xro_ S), (xrn_ S), (xfo_ S), (xva_ S), (xts_ S), (xus_ S), (xnu_ S), (xth_ S), (xsp_ S), (xpr_ S), (xpn_ S), (xbs_ S), (xwr_ S), (xno_ S), (xki_ S), (xdi_ S), (xde_ S), (xst_ S), (xta_ S), (xcb_ S), (xcd_ S), (xbe_ S), (xli_ S), (xke_ S), (xne_ S)))
theorem cX_bit {κ : xb_k} {q : Nat → Nat} {nn : Nat} {fu : Nat} {x1 : Int32} {S T : XS} {r : Int32} (h : SX_bit fu nn x1 S = some (r, T)) : Met κ.1 yX8_bit [Cond.code yX8_bit cX8_bit 2 (some .int)] { frames := 3, cells := 0, slots := 0, locals := 63 } (xb_P κ [.ref (q 0), .int x1] (xwS κ q nn S)) (xb_Qi κ r (xwS κ q nn T)) 0 0 κ.2.2.1 := by
  unfold SX_bit at h
  obtain ⟨o, ho, e⟩ := bd_s h
  cases e
  exact c_X8_bit ho
def SM_bit (fu : Nat) (x1 : Int32) (S : MS) : Option (Int32 × MS) := (F_X9_bit x1 (mth_ S) (mib_ S) (msz_ S) (mbi_ S)).bind fun o => some (o.1, (o.2, (mn_ S), (mib_ S), (mpa_ S), (mwi_ S), (mch_ S), (mst_ S), (msz_ S), (mns_ S), (mld_ S), (mps_ S), (mbb_ S), (mno_ S), (mpk_ S), (mtu_ S), (mfo_ S), (mbi_ S), (mwr_ S), (mus_ S), (mnu_ S), (mli_ S), (mot_ S), (mbl_ S), (mki_ S), (mfr_ S), (mde_ S), (mbe_ S), (mow_ S), (mco_ S), (mpt_ S), (mle_ S), (mpl_ S), (mit_ S), (mro_ S), (maw_ S)))
theorem cM_bit {κ : xb_k} {q : Nat → Nat} {fu : Nat} {x1 : Int32} {S T : MS} {r : Int32} (h : SM_bit fu x1 S = some (r, T)) : Met κ.1 yX9_bit [Cond.code yX9_bit cX9_bit 2 (some .int)] { frames := 1, cells := 0, slots := 0, locals := 25 } (xb_P κ [.ref (q 0), .int x1] (mwS κ q S)) (xb_Qi κ r (mwS κ q T)) 0 0 κ.2.2.1 := by
  unfold SM_bit at h
  obtain ⟨o, ho, e⟩ := bd_s h
  cases e
  exact c_X9_bit ho
def OK_bit (fu : Nat) (Rel : Nat → XS → MS → Prop) : Prop := ∀ (nn : Nat) (X : XS) (M : MS) (x1 : Int32), Rel nn X M → ∃ (r : Int32) (X2 : XS) (M2 : MS), SX_bit fu nn x1 X = some (r, X2) ∧ SM_bit fu x1 M = some (r, M2) ∧ Rel nn X2 M2
def SX_place (fu : Nat) (nn : Nat) (x1 : Int32) (S : XS) : Option (Int32 × XS) := (F_X8_place nn x1 (xth_ S) (xsp_ S) (xst_ S)).bind fun o => some (o, ((xro_ S), (xrn_ S), (xfo_ S), (xva_ S), (xts_ S), (xus_ S), (xnu_ S), (xth_ S), (xsp_ S), (xpr_ S), (xpn_ S), (xbs_ S), (xwr_ S), (xno_ S), (xki_ S), (xdi_ S), (xde_ S), (xst_ S), (xta_ S), (xcb_ S), (xcd_ S), (xbe_ S), (xli_ S), (xke_ S), (xne_ S)))
theorem cX_place {κ : xb_k} {q : Nat → Nat} {nn : Nat} {fu : Nat} {x1 : Int32} {S T : XS} {r : Int32} (h : SX_place fu nn x1 S = some (r, T)) : Met κ.1 yX8_place [Cond.code yX8_place cX8_place 2 (some .int)] { frames := 3, cells := 0, slots := 0, locals := 63 } (xb_P κ [.ref (q 0), .int x1] (xwS κ q nn S)) (xb_Qi κ r (xwS κ q nn T)) 0 0 κ.2.2.1 := by
  unfold SX_place at h
  obtain ⟨o, ho, e⟩ := bd_s h
  cases e
  exact c_X8_place ho
def SM_place (fu : Nat) (x1 : Int32) (S : MS) : Option (Int32 × MS) := (F_X9_place x1 (mth_ S) (mib_ S) (mn_ S) (mps_ S) (mbe_ S)).bind fun o => some (o.1, (o.2, (mn_ S), (mib_ S), (mpa_ S), (mwi_ S), (mch_ S), (mst_ S), (msz_ S), (mns_ S), (mld_ S), (mps_ S), (mbb_ S), (mno_ S), (mpk_ S), (mtu_ S), (mfo_ S), (mbi_ S), (mwr_ S), (mus_ S), (mnu_ S), (mli_ S), (mot_ S), (mbl_ S), (mki_ S), (mfr_ S), (mde_ S), (mbe_ S), (mow_ S), (mco_ S), (mpt_ S), (mle_ S), (mpl_ S), (mit_ S), (mro_ S), (maw_ S)))
theorem cM_place {κ : xb_k} {q : Nat → Nat} {fu : Nat} {x1 : Int32} {S T : MS} {r : Int32} (h : SM_place fu x1 S = some (r, T)) : Met κ.1 yX9_place [Cond.code yX9_place cX9_place 2 (some .int)] { frames := 0, cells := 0, slots := 0, locals := 0 } (xb_P κ [.ref (q 0), .int x1] (mwS κ q S)) (xb_Qi κ r (mwS κ q T)) 0 0 κ.2.2.1 := by
  unfold SM_place at h
  obtain ⟨o, ho, e⟩ := bd_s h
  cases e
  exact c_X9_place ho
def OK_place (fu : Nat) (Rel : Nat → XS → MS → Prop) : Prop := ∀ (nn : Nat) (X : XS) (M : MS) (x1 : Int32), Rel nn X M → ∃ (r : Int32) (X2 : XS) (M2 : MS), SX_place fu nn x1 X = some (r, X2) ∧ SM_place fu x1 M = some (r, M2) ∧ Rel nn X2 M2
def SX_sum (fu : Nat) (nn : Nat) (S : XS) : Option (Int64 × XS) := (F_X8_sum fu nn (xth_ S) (xbs_ S) (xno_ S)).bind fun o => some (o, ((xro_ S), (xrn_ S), (xfo_ S), (xva_ S), (xts_ S), (xus_ S), (xnu_ S), (xth_ S), (xsp_ S), (xpr_ S), (xpn_ S), (xbs_ S), (xwr_ S), (xno_ S), (xki_ S), (xdi_ S), (xde_ S), (xst_ S), (xta_ S), (xcb_ S), (xcd_ S), (xbe_ S), (xli_ S), (xke_ S), (xne_ S)))
theorem cX_sum {κ : xb_k} {q : Nat → Nat} {nn : Nat} {fu : Nat} {S T : XS} {r : Int64} (h : SX_sum fu nn S = some (r, T)) : Met κ.1 yX8_sum [Cond.code yX8_sum cX8_sum 1 (some .long)] { frames := 2, cells := 0, slots := 0, locals := 44 } (xb_P κ [.ref (q 0)] (xwS κ q nn S)) (xb_Ql κ r (xwS κ q nn T)) 0 0 κ.2.2.1 := by
  unfold SX_sum at h
  obtain ⟨o, ho, e⟩ := bd_s h
  cases e
  exact c_X8_sum ho
def SM_sum (fu : Nat) (S : MS) : Option (Int64 × MS) := (F_X9_sum fu (mth_ S) (mib_ S) (msz_ S) (mbi_ S)).bind fun o => some (o.1, (o.2, (mn_ S), (mib_ S), (mpa_ S), (mwi_ S), (mch_ S), (mst_ S), (msz_ S), (mns_ S), (mld_ S), (mps_ S), (mbb_ S), (mno_ S), (mpk_ S), (mtu_ S), (mfo_ S), (mbi_ S), (mwr_ S), (mus_ S), (mnu_ S), (mli_ S), (mot_ S), (mbl_ S), (mki_ S), (mfr_ S), (mde_ S), (mbe_ S), (mow_ S), (mco_ S), (mpt_ S), (mle_ S), (mpl_ S), (mit_ S), (mro_ S), (maw_ S)))
theorem cM_sum {κ : xb_k} {q : Nat → Nat} {fu : Nat} {S T : MS} {r : Int64} (h : SM_sum fu S = some (r, T)) : Met κ.1 yX9_sum [Cond.code yX9_sum cX9_sum 4 (some .long)] { frames := 1, cells := 0, slots := 0, locals := 23 } (xb_P κ [.ref (q 0)] (mwS κ q S)) (xb_Ql κ r (mwS κ q T)) 0 0 κ.2.2.1 := by
  unfold SM_sum at h
  obtain ⟨o, ho, e⟩ := bd_s h
  cases e
  exact c_X9_sum ho
def OK_sum (fu : Nat) (Rel : Nat → XS → MS → Prop) : Prop := ∀ (nn : Nat) (X : XS) (M : MS), Rel nn X M → ∃ (r : Int64) (X2 : XS) (M2 : MS), SX_sum fu nn X = some (r, X2) ∧ SM_sum fu M = some (r, M2) ∧ Rel nn X2 M2
def SX_alter (fu : Nat) (nn : Nat) (x1 : Int32) (x2 : Int32) (S : XS) : Option (Int32 × XS) := (F_X8_alter nn x1 x2 (xth_ S) (xbs_ S) (xno_ S)).bind fun o => some (o.1, ((xro_ S), (xrn_ S), (xfo_ S), (xva_ S), (xts_ S), (xus_ S), (xnu_ S), (xth_ S), (xsp_ S), (xpr_ S), (xpn_ S), (xbs_ S), (xwr_ S), o.2, (xki_ S), (xdi_ S), (xde_ S), (xst_ S), (xta_ S), (xcb_ S), (xcd_ S), (xbe_ S), (xli_ S), (xke_ S), (xne_ S)))
theorem cX_alter {κ : xb_k} {q : Nat → Nat} {nn : Nat} {fu : Nat} {x1 : Int32} {x2 : Int32} {S T : XS} {r : Int32} (h : SX_alter fu nn x1 x2 S = some (r, T)) : Met κ.1 yX8_alter [Cond.code yX8_alter cX8_alter 3 (some .int)] { frames := 2, cells := 0, slots := 0, locals := 43 } (xb_P κ [.ref (q 0), .int x1, .int x2] (xwS κ q nn S)) (xb_Qi κ r (xwS κ q nn T)) 0 0 κ.2.2.1 := by
  unfold SX_alter at h
  obtain ⟨o, ho, e⟩ := bd_s h
  cases e
  exact c_X8_alter ho
def SM_alter (fu : Nat) (x1 : Int32) (x2 : Int32) (S : MS) : Option (Int32 × MS) := (F_X9_alter fu x1 x2 (mth_ S) (mib_ S) (msz_ S) (mbi_ S)).bind fun o => some (o.1, (o.2.1, (mn_ S), (mib_ S), (mpa_ S), (mwi_ S), (mch_ S), (mst_ S), (msz_ S), (mns_ S), (mld_ S), (mps_ S), (mbb_ S), (mno_ S), (mpk_ S), (mtu_ S), (mfo_ S), o.2.2, (mwr_ S), (mus_ S), (mnu_ S), (mli_ S), (mot_ S), (mbl_ S), (mki_ S), (mfr_ S), (mde_ S), (mbe_ S), (mow_ S), (mco_ S), (mpt_ S), (mle_ S), (mpl_ S), (mit_ S), (mro_ S), (maw_ S)))
theorem cM_alter {κ : xb_k} {q : Nat → Nat} {fu : Nat} {x1 : Int32} {x2 : Int32} {S T : MS} {r : Int32} (h : SM_alter fu x1 x2 S = some (r, T)) : Met κ.1 yX9_alter [Cond.code yX9_alter cX9_alter 4 (some .int)] { frames := 1, cells := 0, slots := 0, locals := 25 } (xb_P κ [.ref (q 0), .int x1, .int x2] (mwS κ q S)) (xb_Qi κ r (mwS κ q T)) 0 0 κ.2.2.1 := by
  unfold SM_alter at h
  obtain ⟨o, ho, e⟩ := bd_s h
  cases e
  exact c_X9_alter ho
def OK_alter (fu : Nat) (Rel : Nat → XS → MS → Prop) : Prop := ∀ (nn : Nat) (X : XS) (M : MS) (x1 : Int32) (x2 : Int32), Rel nn X M → ∃ (r : Int32) (X2 : XS) (M2 : MS), SX_alter fu nn x1 x2 X = some (r, X2) ∧ SM_alter fu x1 x2 M = some (r, M2) ∧ Rel nn X2 M2
def SX_judge (fu : Nat) (nn : Nat) (S : XS) : Option (Int32 × XS) := (F_X8_judge fu nn (xth_ S) (xbs_ S) (xwr_ S) (xno_ S) (xst_ S)).bind fun o => some (o, ((xro_ S), (xrn_ S), (xfo_ S), (xva_ S), (xts_ S), (xus_ S), (xnu_ S), (xth_ S), (xsp_ S), (xpr_ S), (xpn_ S), (xbs_ S), (xwr_ S), (xno_ S), (xki_ S), (xdi_ S), (xde_ S), (xst_ S), (xta_ S), (xcb_ S), (xcd_ S), (xbe_ S), (xli_ S), (xke_ S), (xne_ S)))
theorem cX_judge {κ : xb_k} {q : Nat → Nat} {nn : Nat} {fu : Nat} {S T : XS} {r : Int32} (h : SX_judge fu nn S = some (r, T)) : Met κ.1 yX8_judge [Cond.code yX8_judge cX8_judge 1 (some .int)] { frames := 4, cells := 0, slots := 0, locals := 85 } (xb_P κ [.ref (q 0)] (xwS κ q nn S)) (xb_Qi κ r (xwS κ q nn T)) 0 0 κ.2.2.1 := by
  unfold SX_judge at h
  obtain ⟨o, ho, e⟩ := bd_s h
  cases e
  exact c_X8_judge ho
def SM_judge (fu : Nat) (S : MS) : Option (Int32 × MS) := (F_X9_judge fu (mth_ S) (mib_ S) (msz_ S) (mn_ S) (mbe_ S) (mbi_ S) (mwr_ S)).bind fun o => some (o.1, (o.2, (mn_ S), (mib_ S), (mpa_ S), (mwi_ S), (mch_ S), (mst_ S), (msz_ S), (mns_ S), (mld_ S), (mps_ S), (mbb_ S), (mno_ S), (mpk_ S), (mtu_ S), (mfo_ S), (mbi_ S), (mwr_ S), (mus_ S), (mnu_ S), (mli_ S), (mot_ S), (mbl_ S), (mki_ S), (mfr_ S), (mde_ S), (mbe_ S), (mow_ S), (mco_ S), (mpt_ S), (mle_ S), (mpl_ S), (mit_ S), (mro_ S), (maw_ S)))
theorem cM_judge {κ : xb_k} {q : Nat → Nat} {fu : Nat} {S T : MS} {r : Int32} (h : SM_judge fu S = some (r, T)) : Met κ.1 yX9_judge [Cond.code yX9_judge cX9_judge 3 (some .int)] { frames := 1, cells := 0, slots := 0, locals := 20 } (xb_P κ [.ref (q 0)] (mwS κ q S)) (xb_Qi κ r (mwS κ q T)) 0 0 κ.2.2.1 := by
  unfold SM_judge at h
  obtain ⟨o, ho, e⟩ := bd_s h
  cases e
  exact c_X9_judge ho
def OK_judge (fu : Nat) (Rel : Nat → XS → MS → Prop) : Prop := ∀ (nn : Nat) (X : XS) (M : MS), Rel nn X M → ∃ (r : Int32) (X2 : XS) (M2 : MS), SX_judge fu nn X = some (r, X2) ∧ SM_judge fu M = some (r, M2) ∧ Rel nn X2 M2
def SX_order (fu : Nat) (nn : Nat) (x1 : Int32) (x2 : Int32) (S : XS) : Option (Int32 × XS) := (F_X8_order fu nn x1 x2 (xro_ S) (xke_ S) (xli_ S)).bind fun o => some (o.1, ((xro_ S), (xrn_ S), (xfo_ S), (xva_ S), (xts_ S), (xus_ S), (xnu_ S), (xth_ S), (xsp_ S), (xpr_ S), (xpn_ S), (xbs_ S), (xwr_ S), (xno_ S), (xki_ S), (xdi_ S), (xde_ S), (xst_ S), (xta_ S), (xcb_ S), (xcd_ S), (xbe_ S), o.2.2, o.2.1, (xne_ S)))
theorem cX_order {κ : xb_k} {q : Nat → Nat} {nn : Nat} {fu : Nat} {x1 : Int32} {x2 : Int32} {S T : XS} {r : Int32} (h : SX_order fu nn x1 x2 S = some (r, T)) : Met κ.1 yX8_order [Cond.code yX8_order cX8_order 3 (some .int)] { frames := 4, cells := 0, slots := 0, locals := 97 } (xb_P κ [.ref (q 0), .int x1, .int x2] (xwS κ q nn S)) (xb_Qi κ r (xwS κ q nn T)) 0 0 κ.2.2.1 := by
  unfold SX_order at h
  obtain ⟨o, ho, e⟩ := bd_s h
  cases e
  exact c_X8_order ho
def SM_order (fu : Nat) (x1 : Int32) (x2 : Int32) (S : MS) : Option (Int32 × MS) := (F_X9_order fu x1 x2 (mth_ S) (mn_ S) (mno_ S) (mpl_ S) (mit_ S)).bind fun o => some (o.1, (o.2.1, (mn_ S), (mib_ S), (mpa_ S), (mwi_ S), (mch_ S), (mst_ S), (msz_ S), (mns_ S), (mld_ S), (mps_ S), (mbb_ S), (mno_ S), (mpk_ S), (mtu_ S), (mfo_ S), (mbi_ S), (mwr_ S), (mus_ S), (mnu_ S), (mli_ S), (mot_ S), (mbl_ S), (mki_ S), (mfr_ S), (mde_ S), (mbe_ S), (mow_ S), (mco_ S), (mpt_ S), (mle_ S), o.2.2.1, o.2.2.2, (mro_ S), (maw_ S)))
theorem cM_order {κ : xb_k} {q : Nat → Nat} {fu : Nat} {x1 : Int32} {x2 : Int32} {S T : MS} {r : Int32} (h : SM_order fu x1 x2 S = some (r, T)) : Met κ.1 yX9_order [Cond.code yX9_order cX9_order 3 (some .int)] { frames := 3, cells := 0, slots := 0, locals := 71 } (xb_P κ [.ref (q 0), .int x1, .int x2] (mwS κ q S)) (xb_Qi κ r (mwS κ q T)) 0 0 κ.2.2.1 := by
  unfold SM_order at h
  obtain ⟨o, ho, e⟩ := bd_s h
  cases e
  exact c_X9_order ho
def OK_order (fu : Nat) (Rel : Nat → XS → MS → Prop) : Prop := ∀ (nn : Nat) (X : XS) (M : MS) (x1 : Int32) (x2 : Int32), Rel nn X M → ∃ (r : Int32) (X2 : XS) (M2 : MS), SX_order fu nn x1 x2 X = some (r, X2) ∧ SM_order fu x1 x2 M = some (r, M2) ∧ Rel nn X2 M2
def SX_renumber (fu : Nat) (nn : Nat) (x1 : Int32) (S : XS) : Option (Int32 × XS) := (F_X8_renumber fu nn x1 (xro_ S) (xke_ S) (xli_ S) (xrn_ S) (xth_ S)).bind fun o => some (o.1, (o.2.2.2.2.1, o.2.2.2.1, (xfo_ S), (xva_ S), (xts_ S), (xus_ S), (xnu_ S), o.2.2.2.2.2, (xsp_ S), (xpr_ S), (xpn_ S), (xbs_ S), (xwr_ S), (xno_ S), (xki_ S), (xdi_ S), (xde_ S), (xst_ S), (xta_ S), (xcb_ S), (xcd_ S), (xbe_ S), o.2.2.1, o.2.1, (xne_ S)))
theorem cX_renumber {κ : xb_k} {q : Nat → Nat} {nn : Nat} {fu : Nat} {x1 : Int32} {S T : XS} {r : Int32} (h : SX_renumber fu nn x1 S = some (r, T)) : Met κ.1 yX8_renumber [Cond.code yX8_renumber cX8_renumber 2 (some .int)] { frames := 4, cells := 0, slots := 0, locals := 97 } (xb_P κ [.ref (q 0), .int x1] (xwS κ q nn S)) (xb_Qi κ r (xwS κ q nn T)) 0 0 κ.2.2.1 := by
  unfold SX_renumber at h
  obtain ⟨o, ho, e⟩ := bd_s h
  cases e
  exact c_X8_renumber ho
def SM_renumber (fu : Nat) (x1 : Int32) (S : MS) : Option (Int32 × MS) := (F_X9_renumber fu x1 (mth_ S) (mn_ S) (mno_ S) (mpl_ S) (mit_ S) (mtu_ S) (mib_ S) (mpa_ S)).bind fun o => some (o.1, (o.2.1, (mn_ S), o.2.2.2.2.2.2.1, o.2.2.2.2.2.2.2, (mwi_ S), (mch_ S), (mst_ S), (msz_ S), (mns_ S), (mld_ S), (mps_ S), (mbb_ S), o.2.2.2.2.2.1, (mpk_ S), o.2.2.2.2.1, (mfo_ S), (mbi_ S), (mwr_ S), (mus_ S), (mnu_ S), (mli_ S), (mot_ S), (mbl_ S), (mki_ S), (mfr_ S), (mde_ S), (mbe_ S), (mow_ S), (mco_ S), (mpt_ S), (mle_ S), o.2.2.1, o.2.2.2.1, (mro_ S), (maw_ S)))
theorem cM_renumber {κ : xb_k} {q : Nat → Nat} {fu : Nat} {x1 : Int32} {S T : MS} {r : Int32} (h : SM_renumber fu x1 S = some (r, T)) : Met κ.1 yX9_renumber [Cond.code yX9_renumber cX9_renumber 5 (some .int)] { frames := 3, cells := 0, slots := 0, locals := 71 } (xb_P κ [.ref (q 0), .int x1] (mwS κ q S)) (xb_Qi κ r (mwS κ q T)) 0 0 κ.2.2.1 := by
  unfold SM_renumber at h
  obtain ⟨o, ho, e⟩ := bd_s h
  cases e
  exact c_X9_renumber ho
def OK_renumber (fu : Nat) (Rel : Nat → XS → MS → Prop) : Prop := ∀ (nn : Nat) (X : XS) (M : MS) (x1 : Int32), Rel nn X M → ∃ (r : Int32) (X2 : XS) (M2 : MS), SX_renumber fu nn x1 X = some (r, X2) ∧ SM_renumber fu x1 M = some (r, M2) ∧ Rel nn X2 M2
def SX_threes (fu : Nat) (nn : Nat) (S : XS) : Option (Int32 × XS) := (F_X8_threes fu nn (xro_ S) (xne_ S)).bind fun o => some (o.1, ((xro_ S), (xrn_ S), (xfo_ S), (xva_ S), (xts_ S), (xus_ S), (xnu_ S), (xth_ S), (xsp_ S), (xpr_ S), (xpn_ S), (xbs_ S), (xwr_ S), (xno_ S), (xki_ S), (xdi_ S), (xde_ S), (xst_ S), (xta_ S), (xcb_ S), (xcd_ S), (xbe_ S), (xli_ S), (xke_ S), o.2))
theorem cX_threes {κ : xb_k} {q : Nat → Nat} {nn : Nat} {fu : Nat} {S T : XS} {r : Int32} (h : SX_threes fu nn S = some (r, T)) : Met κ.1 yX8_threes [Cond.code yX8_threes cX8_threes 1 (some .int)] { frames := 4, cells := 0, slots := 0, locals := 94 } (xb_P κ [.ref (q 0)] (xwS κ q nn S)) (xb_Qi κ r (xwS κ q nn T)) 0 0 κ.2.2.1 := by
  unfold SX_threes at h
  obtain ⟨o, ho, e⟩ := bd_s h
  cases e
  exact c_X8_threes ho
def SM_threes (fu : Nat) (S : MS) : Option (Int32 × MS) := (F_X9_threes fu (mth_ S) (mn_ S) (mno_ S)).bind fun o => some (o.1, (o.2, (mn_ S), (mib_ S), (mpa_ S), (mwi_ S), (mch_ S), (mst_ S), (msz_ S), (mns_ S), (mld_ S), (mps_ S), (mbb_ S), (mno_ S), (mpk_ S), (mtu_ S), (mfo_ S), (mbi_ S), (mwr_ S), (mus_ S), (mnu_ S), (mli_ S), (mot_ S), (mbl_ S), (mki_ S), (mfr_ S), (mde_ S), (mbe_ S), (mow_ S), (mco_ S), (mpt_ S), (mle_ S), (mpl_ S), (mit_ S), (mro_ S), (maw_ S)))
theorem cM_threes {κ : xb_k} {q : Nat → Nat} {fu : Nat} {S T : MS} {r : Int32} (h : SM_threes fu S = some (r, T)) : Met κ.1 yX9_threes [Cond.code yX9_threes cX9_threes 5 (some .int)] { frames := 1, cells := 0, slots := 0, locals := 22 } (xb_P κ [.ref (q 0)] (mwS κ q S)) (xb_Qi κ r (mwS κ q T)) 0 0 κ.2.2.1 := by
  unfold SM_threes at h
  obtain ⟨o, ho, e⟩ := bd_s h
  cases e
  exact c_X9_threes ho
def OK_threes (fu : Nat) (Rel : Nat → XS → MS → Prop) : Prop := ∀ (nn : Nat) (X : XS) (M : MS), Rel nn X M → ∃ (r : Int32) (X2 : XS) (M2 : MS), SX_threes fu nn X = some (r, X2) ∧ SM_threes fu M = some (r, M2) ∧ Rel nn X2 M2
def SX_parts (fu : Nat) (nn : Nat) (x1 : Int32) (S : XS) : Option (Int32 × XS) := (F_X8_parts fu nn x1 (xro_ S) (xne_ S)).bind fun o => some (o.1, ((xro_ S), (xrn_ S), (xfo_ S), (xva_ S), (xts_ S), (xus_ S), (xnu_ S), (xth_ S), (xsp_ S), (xpr_ S), (xpn_ S), (xbs_ S), (xwr_ S), (xno_ S), (xki_ S), (xdi_ S), (xde_ S), (xst_ S), (xta_ S), (xcb_ S), (xcd_ S), (xbe_ S), (xli_ S), (xke_ S), o.2))
theorem cX_parts {κ : xb_k} {q : Nat → Nat} {nn : Nat} {fu : Nat} {x1 : Int32} {S T : XS} {r : Int32} (h : SX_parts fu nn x1 S = some (r, T)) : Met κ.1 yX8_parts [Cond.code yX8_parts cX8_parts 2 (some .int)] { frames := 4, cells := 0, slots := 0, locals := 93 } (xb_P κ [.ref (q 0), .int x1] (xwS κ q nn S)) (xb_Qi κ r (xwS κ q nn T)) 0 0 κ.2.2.1 := by
  unfold SX_parts at h
  obtain ⟨o, ho, e⟩ := bd_s h
  cases e
  exact c_X8_parts ho
def SM_parts (fu : Nat) (x1 : Int32) (S : MS) : Option (Int32 × MS) := (F_X9_parts fu x1 (mth_ S) (mn_ S) (mit_ S) (maw_ S) (mro_ S) (mno_ S)).bind fun o => some (o.1, (o.2.1, (mn_ S), (mib_ S), (mpa_ S), (mwi_ S), (mch_ S), (mst_ S), (msz_ S), (mns_ S), (mld_ S), (mps_ S), (mbb_ S), (mno_ S), (mpk_ S), (mtu_ S), (mfo_ S), (mbi_ S), (mwr_ S), (mus_ S), (mnu_ S), (mli_ S), (mot_ S), (mbl_ S), (mki_ S), (mfr_ S), (mde_ S), (mbe_ S), (mow_ S), (mco_ S), (mpt_ S), (mle_ S), (mpl_ S), o.2.2.1, o.2.2.2.2, o.2.2.2.1))
theorem cM_parts {κ : xb_k} {q : Nat → Nat} {fu : Nat} {x1 : Int32} {S T : MS} {r : Int32} (h : SM_parts fu x1 S = some (r, T)) : Met κ.1 yX9_parts [Cond.code yX9_parts cX9_parts 6 (some .int)] { frames := 2, cells := 0, slots := 0, locals := 46 } (xb_P κ [.ref (q 0), .int x1] (mwS κ q S)) (xb_Qi κ r (mwS κ q T)) 0 0 κ.2.2.1 := by
  unfold SM_parts at h
  obtain ⟨o, ho, e⟩ := bd_s h
  cases e
  exact c_X9_parts ho
def OK_parts (fu : Nat) (Rel : Nat → XS → MS → Prop) : Prop := ∀ (nn : Nat) (X : XS) (M : MS) (x1 : Int32), Rel nn X M → ∃ (r : Int32) (X2 : XS) (M2 : MS), SX_parts fu nn x1 X = some (r, X2) ∧ SM_parts fu x1 M = some (r, M2) ∧ Rel nn X2 M2
def SX_far (fu : Nat) (nn : Nat) (x1 : Int32) (x2 : Int32) (S : XS) : Option (Int32 × XS) := (F_X8_far fu nn x1 x2 (xro_ S)).bind fun o => some (o, ((xro_ S), (xrn_ S), (xfo_ S), (xva_ S), (xts_ S), (xus_ S), (xnu_ S), (xth_ S), (xsp_ S), (xpr_ S), (xpn_ S), (xbs_ S), (xwr_ S), (xno_ S), (xki_ S), (xdi_ S), (xde_ S), (xst_ S), (xta_ S), (xcb_ S), (xcd_ S), (xbe_ S), (xli_ S), (xke_ S), (xne_ S)))
theorem cX_far {κ : xb_k} {q : Nat → Nat} {nn : Nat} {fu : Nat} {x1 : Int32} {x2 : Int32} {S T : XS} {r : Int32} (h : SX_far fu nn x1 x2 S = some (r, T)) : Met κ.1 yX8_far [Cond.code yX8_far cX8_far 3 (some .int)] { frames := 2, cells := 0, slots := 0, locals := 51 } (xb_P κ [.ref (q 0), .int x1, .int x2] (xwS κ q nn S)) (xb_Qi κ r (xwS κ q nn T)) 0 0 κ.2.2.1 := by
  unfold SX_far at h
  obtain ⟨o, ho, e⟩ := bd_s h
  cases e
  exact c_X8_far ho
def SM_far (fu : Nat) (x1 : Int32) (x2 : Int32) (S : MS) : Option (Int32 × MS) := (F_X9_far fu x1 x2 (mth_ S) (mn_ S) (maw_ S) (mro_ S) (mno_ S)).bind fun o => some (o.1, (o.2.1, (mn_ S), (mib_ S), (mpa_ S), (mwi_ S), (mch_ S), (mst_ S), (msz_ S), (mns_ S), (mld_ S), (mps_ S), (mbb_ S), (mno_ S), (mpk_ S), (mtu_ S), (mfo_ S), (mbi_ S), (mwr_ S), (mus_ S), (mnu_ S), (mli_ S), (mot_ S), (mbl_ S), (mki_ S), (mfr_ S), (mde_ S), (mbe_ S), (mow_ S), (mco_ S), (mpt_ S), (mle_ S), (mpl_ S), (mit_ S), o.2.2.2, o.2.2.1))
theorem cM_far {κ : xb_k} {q : Nat → Nat} {fu : Nat} {x1 : Int32} {x2 : Int32} {S T : MS} {r : Int32} (h : SM_far fu x1 x2 S = some (r, T)) : Met κ.1 yX9_far [Cond.code yX9_far cX9_far 4 (some .int)] { frames := 2, cells := 0, slots := 0, locals := 46 } (xb_P κ [.ref (q 0), .int x1, .int x2] (mwS κ q S)) (xb_Qi κ r (mwS κ q T)) 0 0 κ.2.2.1 := by
  unfold SM_far at h
  obtain ⟨o, ho, e⟩ := bd_s h
  cases e
  exact c_X9_far ho
def OK_far (fu : Nat) (Rel : Nat → XS → MS → Prop) : Prop := ∀ (nn : Nat) (X : XS) (M : MS) (x1 : Int32) (x2 : Int32), Rel nn X M → ∃ (r : Int32) (X2 : XS) (M2 : MS), SX_far fu nn x1 x2 X = some (r, X2) ∧ SM_far fu x1 x2 M = some (r, M2) ∧ Rel nn X2 M2
def SX_count (fu : Nat) (nn : Nat) (x1 : Int32) (S : XS) : Option (Int32 × XS) := (F_X8_count fu nn x1 (xro_ S) (xth_ S) (xpr_ S) (xbs_ S) (xsp_ S) (xki_ S) (xde_ S)).bind fun o => some (o, ((xro_ S), (xrn_ S), (xfo_ S), (xva_ S), (xts_ S), (xus_ S), (xnu_ S), (xth_ S), (xsp_ S), (xpr_ S), (xpn_ S), (xbs_ S), (xwr_ S), (xno_ S), (xki_ S), (xdi_ S), (xde_ S), (xst_ S), (xta_ S), (xcb_ S), (xcd_ S), (xbe_ S), (xli_ S), (xke_ S), (xne_ S)))
theorem cX_count {κ : xb_k} {q : Nat → Nat} {nn : Nat} {fu : Nat} {x1 : Int32} {S T : XS} {r : Int32} (h : SX_count fu nn x1 S = some (r, T)) : Met κ.1 yX8_count [Cond.code yX8_count cX8_count 2 (some .int)] { frames := 3, cells := 0, slots := 0, locals := 65 } (xb_P κ [.ref (q 0), .int x1] (xwS κ q nn S)) (xb_Qi κ r (xwS κ q nn T)) 0 0 κ.2.2.1 := by
  unfold SX_count at h
  obtain ⟨o, ho, e⟩ := bd_s h
  cases e
  exact c_X8_count ho
def SM_count (fu : Nat) (x1 : Int32) (S : MS) : Option (Int32 × MS) := (F_X9_count fu x1 (mth_ S) (mn_ S) (mno_ S) (mpa_ S) (mib_ S) (msz_ S) (mps_ S) (mfr_ S) (mde_ S)).bind fun o => some (o.1, (o.2, (mn_ S), (mib_ S), (mpa_ S), (mwi_ S), (mch_ S), (mst_ S), (msz_ S), (mns_ S), (mld_ S), (mps_ S), (mbb_ S), (mno_ S), (mpk_ S), (mtu_ S), (mfo_ S), (mbi_ S), (mwr_ S), (mus_ S), (mnu_ S), (mli_ S), (mot_ S), (mbl_ S), (mki_ S), (mfr_ S), (mde_ S), (mbe_ S), (mow_ S), (mco_ S), (mpt_ S), (mle_ S), (mpl_ S), (mit_ S), (mro_ S), (maw_ S)))
theorem cM_count {κ : xb_k} {q : Nat → Nat} {fu : Nat} {x1 : Int32} {S T : MS} {r : Int32} (h : SM_count fu x1 S = some (r, T)) : Met κ.1 yX9_count [Cond.code yX9_count cX9_count 4 (some .int)] { frames := 1, cells := 0, slots := 0, locals := 23 } (xb_P κ [.ref (q 0), .int x1] (mwS κ q S)) (xb_Qi κ r (mwS κ q T)) 0 0 κ.2.2.1 := by
  unfold SM_count at h
  obtain ⟨o, ho, e⟩ := bd_s h
  cases e
  exact c_X9_count ho
def OK_count (fu : Nat) (Rel : Nat → XS → MS → Prop) : Prop := ∀ (nn : Nat) (X : XS) (M : MS) (x1 : Int32), Rel nn X M → ∃ (r : Int32) (X2 : XS) (M2 : MS), SX_count fu nn x1 X = some (r, X2) ∧ SM_count fu x1 M = some (r, M2) ∧ Rel nn X2 M2

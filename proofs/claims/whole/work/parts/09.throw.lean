theorem q_lst {U V : State} (hv : V.vm = U.vm) (hh : ∀ q : Nat, q < U.heap.size → V.heap[q]? = U.heap[q]?) {C n d : String} {a a' : Array Value} (h : (Cond.laysStatic C n d).before a U = true) : (Cond.laysStatic C n d).before a' V = true := by
  obtain ⟨c, k, i, f, ad, cell, h1, h2, h3, h4, h5, h6, h7, h8, h9⟩ := Cond.laysStatic_spec h
  have hlt : ad < U.heap.size := (Array.getElem?_eq_some_iff.mp h5).1
  have h2' : V.fieldFound? C n d = some (c, k, i, f) := by
    rw [← h2]
    unfold State.fieldFound?
    rw [hv]
  have h5' : V.heap[ad]? = some cell := (hh ad hlt).trans h5
  simp [Cond.before, Cond.holds, Cond.value, hv, h1, h2', h4, h5', h3, h6, h7, h8, h9]
theorem q_isr {U V : State} (hv : V.vm = U.vm) (hh : ∀ q : Nat, q < U.heap.size → V.heap[q]? = U.heap[q]?) {C n d : String} {a a' : Array Value} (h : (Cond.laysStatic C n d).before a U = true) (hr : (Cond.isRef (.static C n d)).before a U = true) : (Cond.isRef (.static C n d)).before a' V = true := by
  obtain ⟨c, k, i, f, ad, cell, h1, h2, h3, h4, h5, h6, h7, h8, h9⟩ := Cond.laysStatic_spec h
  have hlt : ad < U.heap.size := (Array.getElem?_eq_some_iff.mp h5).1
  have h2' : V.fieldFound? C n d = some (c, k, i, f) := by
    rw [← h2]
    unfold State.fieldFound?
    rw [hv]
  have h5' : V.heap[ad]? = some cell := (hh ad hlt).trans h5
  have e1 : (Term.static C n d).eval a U none [] U = cell.slots[f.slot]? := by simp [Term.eval, State.fieldNamed?, h2, h3, h4, h5, h6]
  have e2 : (Term.static C n d).eval a' V none [] V = cell.slots[f.slot]? := by simp [Term.eval, State.fieldNamed?, h2', h3, h4, h5', h6]
  simp only [Cond.before, Cond.holds, Cond.value] at hr ⊢
  rw [e1] at hr
  rw [e2]
  exact hr
set_option maxHeartbeats 2000000 in
theorem q_thr {p : Program} {l : Launch} {e : Env} {R : Room} {s : State} {m₀ : MethodId} {args : Array Value} {below : List Frame} {meth : Method} {c : Code} {W : State} {locs : List Loc} {cells slots : Nat}
    (X : Stand p l e R s m₀ args below meth c W locs cells slots) (hexec : p.tables.exec = Jvm.exec) (htr : e.platform.stackTraces = false) {own cls : String} {names : List String} {ic : Nat}
    (hown : s.vm.findClass own = some m₀.cls) (hcls : Bundle.fit cls = true) (hnames : ∀ n ∈ names, Bundle.fit n = true) (h : ∀ a ∈ Bundle.ownAtoms own ic cls names, a.before args s = true)
    (hlocs : ∀ x ∈ locs, ∀ cell, s.heap[x.base]? = some cell → cell.vm.isStatics = false)
    {a : Addr} {cX : ClassId} {kX : Class} (hfoundX : s.vm.findClass cls = some cX) (hkX : s.vm.classes[cX]? = some kX) (hcell : W.heap[a]? = some (freshCell cX kX)) (hnew : s.heap.size ≤ a)
    {msg : Value} (hmsg : msg.isRef = true) {g : JFrame} (hg : g.method = m₀) (hsize : g.locals.size = c.maxLocals) (hlocked : g.locked = none) (hentered : g.entered = []) {rest : List Value} (hstack : g.stack = msg :: .ref a :: .ref a :: rest)
    (hd6 : decode c.code g.pc = .ok (.invokespecial ic, 3)) (hd9 : decode c.code (g.pc + 3) = .ok (.athrow, 1)) (hout : ∀ x ∈ c.exceptionTable.toList, covers x (g.pc + 3) = false)
    (hRframes : names.length + 3 < R.frames) (hRlocals : 2 * g.monitorRoom + ((Value.ref a :: rest).map fun v => v.category).sum + (13 * (names.length + 1) + 42) ≤ R.locals) (hlocks : meth.locks = false) :
    ∃ (U : State) (L : List Loc), Steps p.tables e below (W.setTop g) U ∧ U.status = .running ∧ Ended U below (.threw a) ∧ s.WarmedH U.vm ∧ s.sameButNew ({ U with vm := s.vm } : State) L cells slots ∧ (∀ y ∈ L, y ∈ locs ∨ y.base = a) ∧
      U.heap.size = W.heap.size ∧ (∀ q : Nat, q ≠ a → U.heap[q]? = W.heap[q]?) ∧ ∃ ce : Cell, U.heap[a]? = some ce ∧ ce.cls = cX ∧ ce.vm = .none := by
  have hpl : e.platform.magicAccessors = ({} : Platform).magicAccessors := by rw [X.admits.platform]
  have w : ∀ x, x ∈ Bundle.ownAtoms own ic cls names → x.holds args s none s [] = true := fun x hx => h x hx
  obtain ⟨T, Z0, L, -, Y⟩ := ThrowableC.of_atoms (args := args) (pl := e.platform) (by rw [X.admits.platform]) (by rw [X.admits.platform]) hpl (fun x hx => h x (by simp [Bundle.ownAtoms, hx]))
  obtain ⟨Z, M, LZ, LM, hnZ⟩ := Init0T.ofS_atoms (args := args) hpl L Y (fun x hx => h x (by simp [Bundle.ownAtoms, hx]))
  obtain ⟨P1, Ps, hlen, L1, hL, hP1m, hlink1, hlink⟩ := Bundle.chainS (args := args) hpl hnZ names cls hcls hnames (fun x hx => h x (by simp [Bundle.ownAtoms, hx]))
  have hfound : s.vm.findClass cls = some P1.m.cls := findClass_of_methodNamed hP1m
  cases Option.some.inj (hfoundX.symm.trans hfound)
  obtain ⟨c1, k1, hc1, hk, hord, -, -, -⟩ := Cond.instantiable_spec (w (.instantiable cls 6) (by simp [Bundle.ownAtoms]))
  cases Option.some.inj (hc1.symm.trans hfound)
  cases Option.some.inj (hkX.symm.trans hk)
  have sel : ∀ {y : MethodName} {mk : MethodId}, Cond.selects cls y y ∈ Bundle.ownAtoms own ic cls names → s.methodNamed? y = some mk → (y.cls ≠ "java/lang/invoke/MethodHandle" ∧ y.cls ≠ "java/lang/invoke/VarHandle") → selectMethod e.platform s.vm P1.m.cls mk = .method mk := by
    intro y mk hy hn hne
    obtain ⟨c2, r2, m2, q1, q2, q3, q4, -⟩ := Cond.selects_spec (w _ hy)
    cases Option.some.inj (q1.symm.trans hfound)
    cases Option.some.inj (q2.symm.trans (State.methodFound?_of_named hn hne))
    cases Option.some.inj (q3.symm.trans hn)
    rw [Launch.admits_selectMethod X.admits]
    exact q4
  have hsel0 := sel (y := Bundle.tFill0) (by simp [Bundle.ownAtoms]) Y.fill0 (by decide)
  have hselF := sel (y := Bundle.tFill) (by simp [Bundle.ownAtoms]) Y.fill (by decide)
  obtain ⟨cellS0, hcS0, hiss⟩ := Y.statics
  obtain ⟨u0, hu0⟩ := Cond.staticRefV Y.unassigned L.unassignedStatic L.statics hcS0 hiss (w (.isRef (.static Bundle.tN "UNASSIGNED_STACK" Bundle.steD)) (by simp [Bundle.ownAtoms]))
  obtain ⟨sen, hsen⟩ := Cond.staticRefV Y.sentinel L.sentinelStatic L.statics hcS0 hiss (w (.isRef (.static Bundle.tN "SUPPRESSED_SENTINEL" Bundle.listD)) (by simp [Bundle.ownAtoms]))
  obtain ⟨ci198, i198, fB, hk198, hg198, ha198, hsB, -, hnB, htB, hffB⟩ := Cond.ownField (t := .object "java/lang/Object") Y.found L.cls (by decide +kernel) (w (.fieldLink Bundle.tN 198 Bundle.tN "backtrace" "Ljava/lang/Object;") (by simp [Bundle.ownAtoms])) (w (.lays Bundle.tN Bundle.tN "backtrace" "Ljava/lang/Object;") (by simp [Bundle.ownAtoms])) e.platform hpl
  obtain ⟨cellS, hcS', heS, -, hkeep⟩ := X.same.2.2.2.2.2 T.aS cellS0 hcS0
  have hcellS : W.heap[T.aS]? = some cellS := hcS'
  have hnl : ∀ i, (⟨T.aS, i⟩ : Loc) ∉ locs := fun i hmem => by
    have h1 := hlocs _ hmem cellS0 hcS0
    rw [hiss] at h1
    cases h1
  have hknownS : cellS.vm ≠ .unknown := by
    rw [heS]
    intro hu
    rw [show cellS0.vm = .unknown from hu] at hiss
    cases hiss
  have hneS : T.aS ≠ a := Nat.ne_of_lt (Nat.lt_of_lt_of_le (Array.getElem?_eq_some_iff.mp hcS0).1 hnew)
  obtain ⟨iM, hffM⟩ := Y.msg
  obtain ⟨tyC, dC, hdC, hdnC⟩ := Cond.laysAt hfound hk Y.cause (w (.lays cls Bundle.tN "cause" "Ljava/lang/Throwable;") (by simp [Bundle.ownAtoms]))
  obtain ⟨tyS, dS, hdS, hdnS⟩ := Cond.laysAt hfound hk Y.stack (w (.lays cls Bundle.tN "stackTrace" Bundle.steD) (by simp [Bundle.ownAtoms]))
  obtain ⟨tyP, dP, hdP, hdnP⟩ := Cond.laysAt hfound hk Y.supp (w (.lays cls Bundle.tN "suppressedExceptions" Bundle.listD) (by simp [Bundle.ownAtoms]))
  obtain ⟨tyM, dM, hdM, hdnM⟩ := Cond.laysAt hfound hk hffM (w (.lays cls Bundle.tN "detailMessage" "Ljava/lang/String;") (by simp [Bundle.ownAtoms]))
  obtain ⟨tyB, dB, hdB, hdnB⟩ := Cond.laysAt hfound hk hffB (w (.lays cls Bundle.tN "backtrace" "Ljava/lang/Object;") (by simp [Bundle.ownAtoms]))
  have bC := Cond.laysApart hdB hdC hdnB hdnC (by rw [hnB, Y.causeName]; decide)
  have bS := Cond.laysApart hdB hdS hdnB hdnS (by rw [hnB, Y.stackName]; decide)
  have bP := Cond.laysApart hdB hdP hdnB hdnP (by rw [hnB, Y.suppName]; decide)
  have hskip : SkipFacts T e.platform s (fun u => u) u0 ((preparedCellV T.toThrowableT (freshCell P1.m.cls kX) a u0 sen).withEntry W.cur) := by
    refine ⟨{ ci198 := ci198, i198 := i198, fBack := fB }, ⟨hk198, hg198, ha198, hsB⟩, ?_, fun _ _ => rfl⟩
    have h1 := fresh_default (c := P1.m.cls) tyB
    rw [htB] at h1
    simpa [preparedCellV, Cell.setSlot, Cell.withEntry, Array.getElem?_setIfInBounds, bC, bS, bP, bC.symm, bS.symm, bP.symm, defaultValue] using h1
  obtain ⟨tm, methC, cdC, kC, vm₁, hnC, -, -, -, -, -, -, -, hW₁, st1⟩ := Steps.initColdS (tb := p.tables) (e := e) (below := below) (s := s) (U := W) X.here hexec X.warmed hpl hown (t := Bundle.initS cls) rfl rfl (Bundle.fit_spec hcls).2
    (w (.methodLink own ic (Bundle.initS cls)) (by simp [Bundle.ownAtoms])) (h (.instanceMethod (Bundle.initS cls)) (by cases names <;> simp [Bundle.ownAtoms, Bundle.chainSAtoms, Bundle.passSAtoms])) (bytes := Bundle.six) (maxL := 2) (h (.code (Bundle.initS cls) Bundle.six 2 none) (by cases names <;> simp [Bundle.ownAtoms, Bundle.chainSAtoms, Bundle.passSAtoms]))
    (f := g) hg (a := a) (msg := msg) (rest := .ref a :: rest) hstack hd6
  cases Option.some.inj (hnC.symm.trans hP1m)
  obtain ⟨vm₂, X₂, st2⟩ := (X.noted hW₁).ctorMessageOffV hexec (g := { g with stack := .ref a :: rest }) hg hsize T L Z LZ M LM (P1 :: Ps)
    (fun P hP => by rcases List.mem_cons.mp hP with rfl | hP; exact L1; exact hL P hP) ⟨hlink1, hlink⟩ (u0 := u0) (sen := sen) (self := a) hmsg (cell := freshCell P1.m.cls kX) (cellS := cellS)
    hcell (fun _ => by simp) (by simp) rfl rfl hsel0 hselF hcellS hneS hknownS (by rw [hkeep _ (hnl _)]; exact hu0) (by rw [hkeep _ (hnl _)]; exact hsen)
    (Takes.of_laid hk hord tyC (by rw [Y.causeType]; rfl)) (Takes.of_laid hk hord tyS (by rw [Y.stackType]; exact fits_refV_array _ u0)) (Takes.of_laid hk hord tyP (by rw [Y.suppType]; exact fits_refV_object _ sen))
    (Takes.of_laid hk hord tyM (by rw [Y.msgType]; exact fits_refV_object _ ⟨msg, hmsg⟩)) Y.objLocals hskip htr [] hd6
    (by simp only [List.length_cons, hlen]; omega) (by simp only [List.length_cons, hlen]; exact hRlocals)
  obtain ⟨hwalk, hrun, hended, hWU, hsame⟩ := X₂.athrowLeaves hexec (g := { g with stack := .ref a :: rest, pc := g.pc + 3 }) hg hlocked hentered hout (a := a) (rest := rest) rfl hd9
  have hlt : a < ((W.setVm vm₁).setVm vm₂).heap.size := (Array.getElem?_eq_some_iff.mp hcell).1
  have hU := heapAt_setCell_self (s := (W.setVm vm₁).setVm vm₂) (plainBareV T.toThrowableT (freshCell P1.m.cls kX) a u0 sen msg) hlt
  refine ⟨_, _, st1 _ (fun acts => ?_), hrun, hended, hWU, hsame, fun y hy => ?_, ?_, fun q hq => ?_, _, hU, rfl, rfl⟩
  · rw [doInvoke_state]
    exact st2 _ hwalk
  · rcases List.mem_append.mp hy with h1 | h1
    · exact Or.inl h1
    · refine Or.inr ?_
      simp only [List.mem_cons, List.not_mem_nil, or_false] at h1
      rcases h1 with rfl | rfl | rfl | rfl | rfl <;> rfl
  · exact size_setCell _ _ _
  · exact heapAt_setCell_ne (s := (W.setVm vm₁).setVm vm₂) _ (Ne.symm hq)
def qGv : Cond := Jvm.Cond.and given_1 narrow_1
def qat1 (w : Cond) : Bool := (decide (w ∈ lw_tbl) && (w.onTables && w.keeps)) || (match w with
  | .laysStatic _ _ _ => decide (w ∈ lw_tbl)
  | .declares _ => decide (w ∈ lw_tbl)
  | .castable _ _ => decide (w ∈ lw_tbl)
  | .isRef (.static C n d) => decide (Cond.laysStatic C n d ∈ lw_tbl) && decide (w ∈ flatC qGv)
  | _ => false)
def qthr (own : String) (ia ib ic ct : Nat) (cls : String) (names : List String) : Prop :=
  classes[ct]? = some (cls, zF0, 0) ∧ (qown ct = true ∧ ct < 64) ∧ (Bundle.fit cls = true ∧ ∀ n ∈ names, Bundle.fit n = true) ∧ names.length ≤ 4 ∧ Cond.classLink own ia cls ∈ lw_tbl ∧ Cond.instantiable cls 6 ∈ lw_tbl ∧ Cond.initialized cls ∈ lw_tbl ∧
  (∃ tx, Cond.stringRef own ib tx ∈ lw_tbl) ∧ Cond.exactly (.string own ib) "java/lang/String" ∈ flatC qGv ∧ (Bundle.ownAtoms own ic cls names).all qat1 = true
section QTHR
variable {l : Launch} {s0 : State} {a0 : Array Value} {A : qA} {M : qM} {d n0 : Nat} {p : Program} {R : Room} {s : State} {m : MethodId} {meth : Method} {c : Code}
theorem qIn.heap0 (I : qIn l s0 a0 A M d n0 p R s m meth c) : ∀ q : Nat, q < s0.heap.size → s.heap[q]? = s0.heap[q]? := by
  intro q hq
  exact I.2.2.2.2.2.2.2.2.2.1 q (by rw [I.glob.2.2.2.1]; exact hq)
theorem qIn.atoms (I : qIn l s0 a0 A M d n0 p R s m meth c) {args : Array Value} {w : Cond} (hw : qat1 w = true) : w.before args s = true := by
  have hW := I.warm
  have sh : ∀ c : Cond, c.keeps = true → c.before a0 s0 = true → c.before a0 (s0.setVm s.vm) = true := fun c hk h => Cond.holds_shifted (State.Shifted.of_warmed hW) c [] hk h
  have hh : ∀ q : Nat, q < (s0.setVm s.vm).heap.size → s.heap[q]? = (s0.setVm s.vm).heap[q]? := I.heap0
  unfold qat1 at hw
  rw [Bool.or_eq_true] at hw
  rcases hw with hw | hw
  · rw [Bool.and_eq_true, decide_eq_true_eq] at hw
    exact I.word hw.1 (Or.inl hw.2)
  · split at hw
    · rw [decide_eq_true_eq] at hw
      exact q_lst (U := s0.setVm s.vm) (V := s) rfl hh (sh _ rfl (I.glob.1 _ hw))
    · rw [decide_eq_true_eq] at hw
      exact va_Nw.use rfl (va_Nw.warmD hW (va_Nw.of rfl (I.glob.1 _ hw)))
    · rw [decide_eq_true_eq] at hw
      exact va_Nw.use rfl (va_Nw.warmC hW (va_Nw.of rfl (I.glob.1 _ hw)))
    · rw [Bool.and_eq_true, decide_eq_true_eq, decide_eq_true_eq] at hw
      exact q_isr (U := s0.setVm s.vm) (V := s) rfl hh (sh _ rfl (I.glob.1 _ hw.1)) (sh _ rfl (flat_of_before _ I.glob.2.2.2.2.2.2.2.1 _ hw.2))
    · cases hw
end QTHR
theorem QW.thr {d : Nat} {M : qM} {pc : Nat} {ls : List Slot} {h : qH} {P : qE → Prop} {ia ib ic ct : Nat} {cls : String} {names : List String} (hx : qthr M.1.cls ia ib ic ct cls names)
    (hd0 : decode M.2.1 pc = .ok (.new ia, 3)) (hd3 : decode M.2.1 (pc + 3) = .ok (.dup, 1)) (hd4 : decode M.2.1 (pc + 4) = .ok (.ldc ib, 2)) (hd6 : decode M.2.1 (pc + 6) = .ok (.invokespecial ic, 3)) (hd9 : decode M.2.1 (pc + 9) = .ok (.athrow, 1))
    (hno : M.2.2.2.2 = []) (hc : h.length < qCap) (hls : ls.length = M.2.2.1) (hp : P (.inr h.length, h ++ [(ct, [])])) : QW d M pc ls [] h P := by
  intro l s0 a0 A n0 p e R s m args below meth c H locs I S
  obtain ⟨x1, x2, x3, x4, x5, x6, x7, ⟨tx, x8⟩, x9, x10⟩ := hx
  have hKn := I.cls x1
  have hfr : d + 10 ≤ R.frames := I.2.2.2.2.2.2.2.2.2.2.2.2.2.1
  have hlo : 64 * d + 800 ≤ R.locals := I.2.2.2.2.2.2.2.2.2.2.2.2.2.2.1
  have hR1 : qCap ≤ R.cells + n0 := I.2.2.2.2.2.2.2.2.2.2.2.2.2.2.2.1
  have hR2 : 256 * qCap ≤ R.slots + 256 * n0 := I.2.2.2.2.2.2.2.2.2.2.2.2.2.2.2.2.1
  have hn0 : n0 ≤ h.length := S.2.2.2.1
  have hsz : H.size = A.1 h.length := S.1.1
  obtain ⟨q, -, -, -, hq, -⟩ := Cond.exactly_spec (flat_of_before _ I.glob.2.2.2.2.2.2.2.1 _ x9)
  have hZ : vk_R M.1.cls ib tx q s := vk_R.warm I.warm (vk_R.of (I.glob.1 _ x8) hq)
  refine W.newcK I.1 I.2.1 I.own (I.word x5 (Or.inl rfl)) (I.word x6 (Or.inl rfl)) (I.word x7 (Or.inl rfl)) rfl hd0 (by omega) (by omega) hKn.2.1 rfl fun H' kC hkC eh z oq => ?_
  refine W.widen (k := h.length + 1 - n0) (n := 256 * (h.length + 1 - n0)) (by omega) (by omega) ?_
  refine lv_dup (va := .ref H.size) I.1 I.2.1 hd3 rfl ?_
  refine va_ldcS I.1 I.2.1 I.own hZ hd4 ?_
  intro T hT X
  have htr : e.platform.stackTraces = false := by rw [X.admits.platform]; exact I.glob.2.1
  have hmx : (qls A.1 ls).size = c.maxLocals := by rw [I.2.2.1, ← hls]; simp [qls]
  have hK : A.1 A.2.2 ≤ H.size := by rw [hsz]; exact qad_le I.ad S.1.2.1 (q_cap S.2.2.2.2)
  have hs0 : s.heap.size ≤ H.size := by
    have h1 : s.heap.size = A.1 n0 := I.2.2.2.2.2.2.2.2.2.2.2.1
    rw [h1, hsz]
    rcases Nat.eq_or_lt_of_le hn0 with h2 | h2
    · rw [h2]; exact Nat.le_refl _
    · exact Nat.le_of_lt (I.ad.2 _ _ h2 S.1.2.1 (q_cap S.2.2.2.2))
  have hex : c.exceptionTable.toList = [] := by
    have h1 := I.2.2.2.2.2.2.2.1
    rw [hno] at h1
    exact List.map_eq_nil_iff.mp h1
  obtain ⟨U, L, b1, b2, b3, b4, b5, b6, b7, b8, ce, b9, b10, b11⟩ := q_thr X I.1 htr I.own x3.1 x3.2 (fun w hw => I.atoms (List.all_eq_true.mp x10 w hw))
    (fun x hx cell hcell => I.2.2.2.2.2.2.2.2.2.2.1 x.base cell (S.2.2.1 x hx) hcell) (a := H.size) hKn.2.1 hkC (by rw [hT]; exact eh) hs0 (msg := .ref q) rfl (g := F0 m (pc + 6) (qls A.1 ls) [.ref q, .ref H.size, .ref H.size]) rfl hmx rfl rfl (rest := []) rfl
    (by rw [I.2.1]; exact hd6) (by rw [I.2.1]; exact hd9) (by rw [hex]; exact fun x hx => (by cases hx)) (by omega) (by show 2 * 0 + (1 + 0) + (13 * (names.length + 1) + 42) ≤ R.locals; omega) I.2.2.2.2.1
  have hl : (h ++ [(ct, ([] : List Value))]).length = h.length + 1 := by simp
  have hat : qat A (A.1 h.length) (ct, []) U.heap := by
    rw [← hsz]
    exact ⟨ce, b9, b10, by rw [b11]; exact fun z => (by cases z), by rw [b11]; rfl, fun _ => b11, fun _ k v hv => (by cases hv), fun h64 => absurd x2.2 (Nat.not_lt.mpr h64)⟩
  have S' : qSt A s0 n0 (h ++ [(ct, [])]) U.heap locs := qSt_new I.ad S hc hat (by rw [b7, hT]; exact z) (fun q hq => by rw [b8 q (Nat.ne_of_lt hq), hT]; exact oq q hq)
  refine ⟨U, b1, (.inr h.length, h ++ [(ct, [])]), hp, b2, by rw [hsz] at b3; exact b3, b4, L, by rw [hl]; exact b5, S'.1, S'.2.1, fun y hy => ?_, S'.2.2.2.1, S'.2.2.2.2⟩
  rcases b6 y hy with h1 | h1
  · exact S.2.2.1 y h1
  · rw [h1]; exact hK
section QCAT
variable {d : Nat} {M : qM} {pc : Nat} {ls : List Slot} {a : Nat} {h : qH} {P : qE → Prop}
theorem q_cat {tbl : List ExceptionTableEntry} {st en hp ci : Nat} {post : List (Nat × Nat × Nat × Nat)} (h : tbl.map (fun x => (x.startPc, x.endPc, x.handlerPc, x.catchType)) = (st, en, hp, ci) :: post) : ∃ (x : ExceptionTableEntry) (r : List ExceptionTableEntry), tbl = x :: r ∧ x.startPc = st ∧ x.endPc = en ∧ x.handlerPc = hp ∧ x.catchType = ci ∧ r.map (fun x => (x.startPc, x.endPc, x.handlerPc, x.catchType)) = post := by
  cases tbl with
  | nil => cases h
  | cons x r =>
    rw [List.map_cons, List.cons.injEq] at h
    obtain ⟨h1, h2⟩ := h
    simp only [Prod.mk.injEq] at h1
    exact ⟨x, r, rfl, h1.1, h1.2.1, h1.2.2.1, h1.2.2.2, h2⟩
theorem QT.catch {st en hp ci ct N : Nat} {cn : String} {T0 : u_T} {fs : List Value} {pre : List (Nat × Nat × Nat × Nat)} {post : List (Nat × Nat × Nat × Nat)} (ht : M.2.2.2.2 = pre ++ (st, en, hp, ci) :: post) (hpre : pre = [] ∨ ∃ (s1 e1 p1 c1 : Nat) (n1 : String), pre = [(s1, e1, p1, c1)] ∧ c1 ≠ 0 ∧ Cond.classLink M.1.cls c1 n1 ∈ lw_tbl ∧ Cond.not (.castable cn n1) ∈ flatC qGv)
    (h1 : st ≤ pc) (h2 : pc < en) (h0 : ci ≠ 0) (hl : Cond.classLink M.1.cls ci cn ∈ lw_tbl) (ha : h[a]? = some (ct, fs)) (hq : classes[ct]? = some (cn, T0, N)) (kk : QW d M hp ls [.ref a] h P) : QT d M pc ls a h P := by
  intro l s0 a0 A n0 p e R s m args below meth c T locs I S X st'
  obtain ⟨⟨cell, c1, c2, c3, c4, -⟩, -⟩ := S.1.2.2 a _ ha
  have hat := (I.cls hq).2
  obtain ⟨hfc, k0, hk0, hkind⟩ := hat
  have hpl : e.platform.magicAccessors = ({} : Platform).magicAccessors := by rw [X.admits.platform]
  have hcell : ((T.setTop (F0 m pc (qls A.1 ls) st')).pushFrame (.throwing (A.1 a))).heap[A.1 a]? = some cell := c1
  have hk : s.vm.classes[cell.cls]? = some k0 := by rw [c2]; exact hk0
  have tb := I.2.2.2.2.2.2.2.1
  rw [ht] at tb
  obtain ⟨cc, hcc, hcl⟩ := Cond.classLink_spec I.own (I.word hl (Or.inl rfl) (a' := args)) e.platform hpl
  have hcc : cc = A.2.1.1 ct := Option.some.inj (hcc.symm.trans hfc)
  subst hcc
  have hfit : s.vm.assignable cell.cls (A.2.1.1 ct) = true := by rw [c2]; exact va_assign ⟨hfc, k0, hk0, hkind⟩
  have fin : ∀ (pe : List ExceptionTableEntry) (x : ExceptionTableEntry) (r : List ExceptionTableEntry), c.exceptionTable.toList = pe ++ x :: r → x.startPc = st → x.endPc = en → x.handlerPc = hp → x.catchType = ci → (∀ y ∈ pe, q_by e.platform s m.cls pc cell.cls y) →
      ∃ t, Steps p.tables e below ((T.setTop (F0 m pc (qls A.1 ls) st')).pushFrame (.throwing (A.1 a))) t ∧ qQ A s0 n0 s below P t := by
    intro pe x r e1 e2 e3 e4 e5 hby
    have hcov : covers x (F0 m pc (qls A.1 ls) st').pc = true := by
      show (decide (x.startPc ≤ pc) && decide (pc < x.endPc)) = true
      rw [e2, e3]
      simp [h1, h2]
    obtain ⟨vm', hW', hs⟩ := q_seek (e := e) (s := s) (f := F0 m pc (qls A.1 ls) st') (a := A.1 a) (q_nst c4) hk (x := x) (rest := r) hcov (by rw [e5]; exact h0) (by rw [e5]; exact hcl) hfit pe ((T.setTop (F0 m pc (qls A.1 ls) st')).pushFrame (.throwing (A.1 a))) X.warmed hcell hby
    obtain ⟨t, b1, b2⟩ := kk (e := e) (args := args) (below := below) I S (T.setVm vm') rfl (X.noted hW')
    refine ⟨t, q_caught (vm' := vm') (pc := hp) X.here (fun Q E d acts => ?_) b1, b2⟩
    rw [W.findHandler_eq (meth := meth) (code := c) X.method' X.code, e1, hs, e4]
  rcases hpre with rfl | ⟨s1, e1, p1, c1', n1, rfl, g1, g2, g3⟩
  · obtain ⟨x, r, q1, q2, q3, q4, q5, -⟩ := q_cat tb
    exact fin [] x r q1 q2 q3 q4 q5 (fun y hy => by cases hy)
  · obtain ⟨y, r0, q1, -, -, -, q5, q6⟩ := q_cat tb
    obtain ⟨x, r, w1, w2, w3, w4, w5, -⟩ := q_cat q6
    refine fin [y] x r (by rw [q1, w1]; rfl) w2 w3 w4 w5 (fun z hz => ?_)
    rw [List.mem_singleton.mp hz]
    refine Or.inr ⟨by rw [q5]; exact g1, ?_⟩
    obtain ⟨cb, hcb, hclb⟩ := Cond.classLink_spec I.own (I.word g2 (Or.inl rfl) (a' := args)) e.platform hpl
    obtain ⟨k1, t1, f1, f2, f3⟩ := va_Nc.moved I.warm.alike (va_Nc.of (flat_of_before _ I.glob.2.2.2.2.2.2.2.1 _ g3))
    cases Option.some.inj (f1.symm.trans hfc)
    cases Option.some.inj (f2.symm.trans hcb)
    exact ⟨_, by rw [q5]; exact hclb, by rw [c2]; exact f3⟩
end QCAT

def qen (n : Nat) (as : List Value) : List Slot := lg_sl as ++ List.replicate (n - (lg_sl as).length) .unset
theorem lg_sl_qv (ad : Nat → Nat) (as : List Value) : lg_sl (qvs ad as) = (lg_sl as).map (qsv ad) := by
  induction as with
  | nil => rfl
  | cons v vs ih =>
    show lg_sl (qv ad v :: qvs ad vs) = _
    have e1 : ∀ w (ws : List Value), lg_sl (w :: ws) = (if w.category = 2 then [.val w, .second] else [.val w]) ++ lg_sl ws := fun w ws => rfl
    rw [e1, e1, ih, List.map_append, qv_cat]
    congr 1
    split <;> rfl
theorem qen_entry (ad : Nat → Nat) (m : MethodId) (n : Nat) (as : List Value) : entryFrame m (qvs ad as).toArray n = F0 m 0 (qls ad (qen n as)) [] := by
  rw [lg_entry_eq, lg_sl_qv]
  simp [qls, qen, qsv]
theorem q_weaken {tb : Tables} {e : Env} {mid below : List Frame} {a b : State} (h : Steps tb e (mid ++ below) a b) : Steps tb e below a b := by
  obtain ⟨n, hn, w⟩ := h
  exact ⟨n, hn, fun k hk => (w k hk).weaken⟩
def qMt (M : qM) (U : State) (mk : MethodId) (methk : Method) (ck : Code) : Prop :=
  U.vm.method? mk = some methk ∧ methk.code = some ck ∧ ck.code = M.2.1 ∧ ck.maxLocals = M.2.2.1 ∧ methk.sig.returnType = M.2.2.2.1 ∧ methk.locks = false ∧ methk.name = M.1.name ∧ U.vm.findClass M.1.cls = some mk.cls ∧
  (ck.exceptionTable.toList.map (fun x => (x.startPc, x.endPc, x.handlerPc, x.catchType)) = M.2.2.2.2) ∧ ∃ kk : Class, U.vm.classes[mk.cls]? = some kk ∧ plainName kk.name = true
theorem qMt.plain {M : qM} {U : State} {mk : MethodId} {methk : Method} {ck : Code} (h : qMt M U mk methk ck) : U.plainMethod mk := by
  obtain ⟨-, -, -, -, -, -, -, -, -, kk, h1, h2⟩ := h
  refine State.plainMethod.of_name fun k hk => ?_
  cases h1.symm.trans hk
  exact h2
section QCALL
variable {l : Launch} {s0 : State} {a0 : Array Value} {A : qA} {d n0 : Nat} {M M2 : qM} {p : Program} {e : Env} {R : Room} {s : State} {m : MethodId} {args : Array Value} {below : List Frame} {meth : Method} {c : Code} {H : Heap} {locs : List Loc} {h : qH} {T : State}
set_option maxRecDepth 100000 in
theorem q_call (I : qIn l s0 a0 A M (d + 1) n0 p R s m meth c) (S : qSt A s0 n0 h H locs) (hT : T.heap = H) (X : Stand p l e R s m args below meth c T locs (h.length - n0) (256 * (h.length - n0)))
    {g : JFrame} (hg : g.method = m) (hsz : g.locals.size = c.maxLocals) (hw : 2 * g.monitorRoom + (g.stack.map fun v => v.category).sum ≤ 20) {ig : Instr} {len : Nat} (hdg : decode c.code g.pc = .ok (ig, len))
    {mk : MethodId} {methk : Method} {ck : Code} (hm : qMt M2 T mk methk ck) (hml : M2.2.2.1 ≤ 30) {as : List Value} {P1 : qE → Prop} (hC : QW d M2 0 (qen M2.2.2.1 as) [] h P1) :
    ∃ (r : qE) (t T' : State) (L : List Loc), P1 r ∧ Stand p l e R s m args below meth c T' L (r.2.length - n0) (256 * (r.2.length - n0)) ∧ qSt A s0 n0 r.2 T'.heap L ∧
      (∀ acts, Steps p.tables e below (doInvoke e (T.setTop g) acts mk (qvs A.1 as).toArray).1 t) ∧
      (∀ v, r.1 = .inl v → t = T'.setTop { g with pc := g.pc + len, stack := (v.map (qv A.1)).toList ++ g.stack }) ∧ (∀ a, r.1 = .inr a → t = (T'.setTop g).pushFrame (.throwing (A.1 a))) := by
  obtain ⟨i1, i2, i3, i4, i5, i6, i7, i8, i9, i10, i11, i12, i13, i14, i15, i16, i17, i18⟩ := I
  have j10 := hm.plain
  obtain ⟨j1, j2, j3, j4, j5, j6, j7, j8, j9, -⟩ := hm
  obtain ⟨S1, S2, S3, S4, S5⟩ := S
  obtain ⟨Y, hin⟩ := X.into (R' := { frames := R.frames - 1, cells := R.cells - (h.length - n0), slots := R.slots - 256 * (h.length - n0), locals := 64 * d + 800 }) hg hsz hdg (qvs A.1 as).toArray j1 j2 j6 j10
    (by show R.frames - 1 + 1 ≤ R.frames; omega) (by show 2 * g.monitorRoom + (g.stack.map fun v => v.category).sum + (ck.maxLocals + 11) + (64 * d + 800) ≤ R.locals; rw [j4]; omega)
    (by show h.length - n0 + (R.cells - (h.length - n0)) ≤ R.cells; omega) (by show 256 * (h.length - n0) + (R.slots - 256 * (h.length - n0)) ≤ R.slots; omega)
  have hheap : (T.calling g mk (qvs A.1 as).toArray).heap = H := hT
  have hvm : (T.calling g mk (qvs A.1 as).toArray).vm = T.vm := rfl
  have I' : qIn l s0 a0 A M2 d h.length p { frames := R.frames - 1, cells := R.cells - (h.length - n0), slots := R.slots - 256 * (h.length - n0), locals := 64 * d + 800 } (T.calling g mk (qvs A.1 as).toArray) mk methk ck := by
    refine ⟨i1, j3, j4, j5, j6, j7, j8, j9, State.WarmedH.trans i9 X.warmed, by rw [hheap]; exact S2, fun q cell hq hc => ?_, by rw [hheap]; exact S1.1, S1.2.1, by show d + 10 ≤ R.frames - 1; omega, Nat.le_refl _, by show qCap ≤ R.cells - (h.length - n0) + h.length; omega, by show 256 * qCap ≤ R.slots - 256 * (h.length - n0) + 256 * h.length; omega, i18⟩
    exact qhr_ns i18.2.2.1 S5 S1 q cell hq (by rw [hheap] at hc; exact hc)
  have S' : qSt A s0 h.length h H [] := ⟨S1, S2, (fun q hq => by cases hq), Nat.le_refl _, S5⟩
  have K := hC I' S' (e := e) (args := (qvs A.1 as).toArray) (below := .java g :: below)
  rw [Nat.sub_self, Nat.mul_zero] at K
  obtain ⟨t, a1, r, b1, b2, b3, b4, L, b5, b6⟩ := K _ (by exact hT) Y
  have a3 : entryFrame mk (qvs A.1 as).toArray ck.maxLocals = F0 mk 0 (qls A.1 (qen M2.2.2.1 as)) (qvs A.1 []) := by rw [j4]; exact qen_entry A.1 mk M2.2.2.1 as
  rw [← a3] at a1
  obtain ⟨c1, c2, c3, c4, c5⟩ := b6
  have hn : h.length - n0 + (r.2.length - h.length) = r.2.length - n0 := by omega
  have hn2 : 256 * (h.length - n0) + 256 * (r.2.length - h.length) = 256 * (r.2.length - n0) := by omega
  have hL : ∀ q ∈ locs ++ L, A.1 A.2.2 ≤ q.base := fun q hq => by
    rcases List.mem_append.mp hq with h1 | h1
    · exact S3 q h1
    · exact c3 q h1
  have a2 : ∀ acts, Steps p.tables e below (doInvoke e (T.setTop g) acts mk (qvs A.1 as).toArray).1 t := fun acts => by
    rw [hin acts]
    exact q_weaken (mid := [.java g]) a1
  cases hr : r.1 with
  | inl v =>
    rw [hr] at b3
    obtain ⟨T', X', hW', -, ht⟩ := X.outOf hg hdg b3 b4 b5
    rw [hn, hn2] at X'
    have hth : t.heap = T'.heap := by rw [ht]; rfl
    refine ⟨r, t, T', locs ++ L, b1, X', ⟨by rw [← hth]; exact c1, by rw [← hth]; exact c2, hL, by omega, c5⟩, a2, fun v' hv' => ?_, fun a ha => ?_⟩
    · cases hr.symm.trans hv'
      exact ht
    · cases hr.symm.trans ha
  | inr x =>
    rw [hr] at b3
    obtain ⟨T', X', hW', -, ht⟩ := X.outOfThrown hg b3 b4 b5
    rw [hn, hn2] at X'
    have hth : t.heap = T'.heap := by rw [ht]; rfl
    refine ⟨r, t, T', locs ++ L, b1, X', ⟨by rw [← hth]; exact c1, by rw [← hth]; exact c2, hL, by omega, c5⟩, a2, fun v' hv' => ?_, fun a ha => ?_⟩
    · cases hr.symm.trans hv'
    · cases hr.symm.trans ha
      exact ht
end QCALL

def QT (d : Nat) (M : qM) (pc : Nat) (ls : List Slot) (a : Nat) (h : qH) (P : qE → Prop) : Prop :=
  ∀ ⦃l : Launch⦄ ⦃s0 : State⦄ ⦃a0 : Array Value⦄ ⦃A : qA⦄ ⦃n0 : Nat⦄ ⦃p : Program⦄ ⦃e : Env⦄ ⦃R : Room⦄ ⦃s : State⦄ ⦃m : MethodId⦄ ⦃args : Array Value⦄ ⦃below : List Frame⦄ ⦃meth : Method⦄ ⦃c : Code⦄ ⦃T : State⦄ ⦃locs : List Loc⦄,
    qIn l s0 a0 A M d n0 p R s m meth c → qSt A s0 n0 h T.heap locs → Stand p l e R s m args below meth c T locs (h.length - n0) (256 * (h.length - n0)) → ∀ st' : List Value,
      ∃ t, Steps p.tables e below ((T.setTop (F0 m pc (qls A.1 ls) st')).pushFrame (.throwing (A.1 a))) t ∧ qQ A s0 n0 s below P t
section QCL
variable {l : Launch} {s0 : State} {a0 : Array Value} {A : qA} {d n0 : Nat} {M M2 : qM} {p : Program} {e : Env} {R : Room} {s : State} {m : MethodId} {args : Array Value} {below : List Frame} {meth : Method} {c : Code} {H : Heap} {locs : List Loc} {h : qH} {T : State}
theorem q_meth (I : qIn l s0 a0 A M d n0 p R s m meth c) (hm : qme M2) : ∃ (mk : MethodId) (methk : Method) (ck : Code) (kk : Class), s.methodNamed? M2.1 = some mk ∧ qMt M2 s mk methk ck ∧ parseMethodDescriptor M2.1.desc = some methk.sig ∧ s.vm.classes[mk.cls]? = some kk ∧ kk.init = .initialized := by
  obtain ⟨h1, h2, h3, h4, h5⟩ := hm
  have hini : (Cond.initialized M2.1.cls).before #[] s = true := I.word h5 (Or.inl rfl)
  have key : ∀ (mk : MethodId) (methk : Method) (ck : Code), s.methodNamed? M2.1 = some mk → s.vm.method? mk = some methk → methk.code = some ck → ck.code = M2.2.1 → ck.maxLocals = M2.2.2.1 → methk.sig.returnType = M2.2.2.2.1 → methk.locks = false →
      (ck.exceptionTable.toList.map (fun x => (x.startPc, x.endPc, x.handlerPc, x.catchType)) = M2.2.2.2.2) → parseMethodDescriptor M2.1.desc = some methk.sig →
      ∃ (mk : MethodId) (methk : Method) (ck : Code) (kk : Class), s.methodNamed? M2.1 = some mk ∧ qMt M2 s mk methk ck ∧ parseMethodDescriptor M2.1.desc = some methk.sig ∧ s.vm.classes[mk.cls]? = some kk ∧ kk.init = .initialized := by
    intro mk methk ck g1 g2 g3 g4 g5 g6 g7 g8 g9
    obtain ⟨kk, hkk, hkn⟩ := className_of_methodNamed g1
    refine ⟨mk, methk, ck, kk, g1, ⟨g2, g3, g4, g5, g6, g7, (name_of_methodNamed g1 g2).1, findClass_of_methodNamed g1, g8, kk, hkk, by rw [hkn]; exact h1⟩, g9, hkk, Cond.initialized_spec (findClass_of_methodNamed g1) hkk hini⟩
  rcases h4 with ⟨h4, h6⟩ | h4
  · have hcode : (Cond.code M2.1 M2.2.1 M2.2.2.1 M2.2.2.2.1).before #[] s = true := I.word h4 (Or.inl rfl)
    obtain ⟨mk, g1⟩ := Cond.code_named hcode
    obtain ⟨methk, ck, g2, g3, g4, g5, g6, g7, g8, g9⟩ := Cond.code_spec g1 hcode
    refine key mk methk ck g1 g2 g3 g4 g5 g6 g7 ?_ g9
    rw [h6]
    simp at g8
    simp [g8]
  · have hcode : (Cond.codeWith M2.1 M2.2.1 M2.2.2.1 M2.2.2.2.1 M2.2.2.2.2).before #[] s = true := I.word h4 (Or.inl rfl)
    obtain ⟨mk, methk, ck, g1, g2, g3, g4, g5, g8, g6, g7, g9⟩ := Cond.codeWith_spec hcode
    exact key mk methk ck g1 g2 g3 g4 g5 g6 g7 g8 g9
theorem qMt.to {mk : MethodId} {methk : Method} {ck : Code} (h : qMt M2 s mk methk ck) {U : State} (hW : s.WarmedH U.vm) : qMt M2 U mk methk ck := by
  obtain ⟨h1, h2, h3, h4, h5, h6, h7, h8, h9, kk, h10, h11⟩ := h
  obtain ⟨k', hk', he⟩ := hW.alike.2.2 _ _ h10
  exact ⟨by rw [hW.alike.method?]; exact h1, h2, h3, h4, h5, h6, h7, by rw [hW.alike.findClass]; exact h8, h9, k', hk', by rw [he]; exact h11⟩
def qnp (M : qM) : Option Nat := (parseMethodDescriptor M.1.desc).map (fun d => d.parameters.length)
theorem q_go {pc : Nat} {ls : List Slot} {rest as : List Value} {P P1 : qE → Prop} {ig : Instr} (I : qIn l s0 a0 A M (d + 1) n0 p R s m meth c) (S : qSt A s0 n0 h H locs) (hT : T.heap = H) (X : Stand p l e R s m args below meth c T locs (h.length - n0) (256 * (h.length - n0)))
    (hd : decode M.2.1 pc = .ok (ig, 3)) (hls : ls.length = M.2.2.1) (hw : (rest.map fun v => v.category).sum ≤ 20) {mk : MethodId} {methk : Method} {ck : Code} (hm : qMt M2 T mk methk ck) (hml : M2.2.2.1 ≤ 30) (hC : QW d M2 0 (qen M2.2.2.1 as) [] h P1)
    (hr : ∀ v h', P1 (.inl v, h') → QW (d + 1) M (pc + 3) ls (v.toList ++ rest) h' P) (ht : ∀ a h', P1 (.inr a, h') → QT (d + 1) M pc ls a h' P) :
    ∃ t, (∀ acts, Steps p.tables e below (doInvoke e (T.setTop (F0 m pc (qls A.1 ls) (qvs A.1 rest))) acts mk (qvs A.1 as).toArray).1 t) ∧ qQ A s0 n0 s below P t := by
  have hsz : (F0 m pc (qls A.1 ls) (qvs A.1 rest)).locals.size = c.maxLocals := by
    show (qls A.1 ls).size = _
    rw [I.2.2.1, ← hls]
    simp [qls]
  have hww : 2 * (F0 m pc (qls A.1 ls) (qvs A.1 rest)).monitorRoom + ((F0 m pc (qls A.1 ls) (qvs A.1 rest)).stack.map fun v => v.category).sum ≤ 20 := by
    show 2 * 0 + ((qvs A.1 rest).map fun v => v.category).sum ≤ 20
    have e1 : (qvs A.1 rest).map (fun v => v.category) = rest.map fun v => v.category := by
      simp [qvs, List.map_map, Function.comp_def, qv_cat]
    rw [e1]
    omega
  obtain ⟨r, t, T', L, b1, X', S', b4, b5, b6⟩ := q_call I S hT X (g := F0 m pc (qls A.1 ls) (qvs A.1 rest)) rfl hsz hww (by rw [I.2.1]; exact hd) hm hml hC
  obtain ⟨o, h'⟩ := r
  cases o with
  | inl v =>
    obtain ⟨t2, a2, q2⟩ := hr v h' b1 I S' T' rfl X'
    have e1 := b5 v rfl
    refine ⟨t2, fun acts => (b4 acts).trans ?_, q2⟩
    rw [e1]
    have e2 : qvs A.1 (v.toList ++ rest) = (v.map (qv A.1)).toList ++ qvs A.1 rest := by cases v <;> rfl
    rw [e2] at a2
    exact a2
  | inr a =>
    obtain ⟨t2, a2, q2⟩ := ht a h' b1 I S' X' (qvs A.1 rest)
    have e1 := b6 a rfl
    refine ⟨t2, fun acts => (b4 acts).trans ?_, q2⟩
    rw [e1]
    exact a2
end QCL
section QCR
variable {d : Nat} {M M2 : qM} {pc idx : Nat} {ls : List Slot} {st as rest : List Value} {h : qH} {P P1 : qE → Prop}
theorem q_vlen {ad : Nat → Nat} {as : List Value} {sig : MethodDescriptor} {n : Nat} (h : qnp M2 = some n) (hs : parseMethodDescriptor M2.1.desc = some sig) (hl : as.length = n) : (qvs ad as).length = sig.parameters.length := by
  unfold qnp at h
  rw [hs] at h
  have h2 : sig.parameters.length = n := Option.some.inj h
  simp only [qvs, List.length_map]
  omega
theorem QW.callS (hd : decode M.2.1 pc = .ok (.invokestatic idx, 3)) (hm : qme M2) (hl : qlk M.1.cls idx M2) (hs : Cond.static M2.1 ∈ lw_tbl) (hn : qnp M2 = some as.length) (hst : st = as.reverse ++ rest) (hls : ls.length = M.2.2.1) (hw : (rest.map fun v => v.category).sum ≤ 20)
    (hC : QW d M2 0 (qen M2.2.2.1 as) [] h P1) (hr : ∀ v h', P1 (.inl v, h') → QW (d + 1) M (pc + 3) ls (v.toList ++ rest) h' P) (ht : ∀ a h', P1 (.inr a, h') → QT (d + 1) M pc ls a h' P) : QW (d + 1) M pc ls st h P := by
  intro l s0 a0 A n0 p e R s m args below meth c H locs I S T hT X
  subst hst
  obtain ⟨mk, methk, ck, kk, g1, g2, g3, g4, g5⟩ := q_meth I hm
  have hstat : methk.isStatic = true := Cond.static_spec g1 g2.1 (I.word hs (Or.inl rfl) (a' := args))
  have hlen := q_vlen (ad := A.1) hn g3 rfl
  have hstk : qvs A.1 (as.reverse ++ rest) = (qvs A.1 as).reverse ++ qvs A.1 rest := by simp [qvs]
  have fin : ∀ vm', Stand p l e R s m args below meth c (T.setVm vm') locs (h.length - n0) (256 * (h.length - n0)) → (∀ target, (∀ acts, Steps p.tables e below (doInvoke e ((T.setVm vm').setTop (F0 m pc (qls A.1 ls) (qvs A.1 rest))) acts mk (qvs A.1 as).toArray).1 target) → Steps p.tables e below (T.setTop (F0 m pc (qls A.1 ls) (qvs A.1 (as.reverse ++ rest)))) target) →
      ∃ t, Steps p.tables e below (T.setTop (F0 m pc (qls A.1 ls) (qvs A.1 (as.reverse ++ rest)))) t ∧ qQ A s0 n0 s below P t := by
    intro vm' X' hgo
    obtain ⟨t, b1, b2⟩ := q_go I S (by exact hT) X' hd hls hw (g2.to X'.warmed) hm.2.1 hC hr ht
    exact ⟨t, hgo t b1, b2⟩
  rcases hl with hl | ⟨host, hl⟩
  · obtain ⟨vm', X', hgo⟩ := X.invokestatic I.1 I.own (I.word hl (Or.inl rfl)) g1 g2.1 hstat g4 g5 hm.2.2.1 (g := F0 m pc (qls A.1 ls) (qvs A.1 (as.reverse ++ rest))) rfl (argsL := qvs A.1 as) (rest := qvs A.1 rest) hlen hstk (by rw [I.2.1]; exact hd)
    exact fin vm' X' hgo
  · obtain ⟨vm', X', hgo⟩ := X.invokestaticNest I.1 I.own (va_Nw.use rfl (va_Nw.warmM I.warm (va_Nw.of rfl (I.glob.1 _ hl)))) g1 g2.1 hstat g4 g5 hm.2.2.1 (g := F0 m pc (qls A.1 ls) (qvs A.1 (as.reverse ++ rest))) rfl (argsL := qvs A.1 as) (rest := qvs A.1 rest) hlen hstk (by rw [I.2.1]; exact hd)
    exact fin vm' X' hgo
theorem QW.callV {b ct : Nat} {q : vw_C} {fs : List Value} (hd : decode M.2.1 pc = .ok (.invokevirtual idx, 3)) (hm : qme M2) (hl : qlk M.1.cls idx M2) (hi : Cond.instanceMethod M2.1 ∈ lw_tbl) (hse : Cond.selects M2.1.cls M2.1 M2.1 ∈ lw_tbl) (hn : qnp M2 = some as.length) (hst : st = as.reverse ++ .ref b :: rest) (hb : h[b]? = some (ct, fs)) (hq : classes[ct]? = some q) (hqc : q.1 = M2.1.cls) (hls : ls.length = M.2.2.1) (hw : (rest.map fun v => v.category).sum ≤ 20)
    (hC : QW d M2 0 (qen M2.2.2.1 (.ref b :: as)) [] h P1) (hr : ∀ v h', P1 (.inl v, h') → QW (d + 1) M (pc + 3) ls (v.toList ++ rest) h' P) (ht : ∀ a h', P1 (.inr a, h') → QT (d + 1) M pc ls a h' P) : QW (d + 1) M pc ls st h P := by
  intro l s0 a0 A n0 p e R s m args below meth c H locs I S T hT X
  subst hst
  obtain ⟨mk, methk, ck, kk, g1, g2, g3, g4, g5⟩ := q_meth I hm
  obtain ⟨mk', methk', g1', g2', hstM, habM⟩ := Cond.instanceMethod_spec (I.word hi (Or.inl rfl) (a' := args))
  cases g1.symm.trans g1'
  cases g2.1.symm.trans g2'
  obtain ⟨⟨cellB, d1, d2, d3, d4, -⟩, -⟩ := S.1.2.2 b _ hb
  have hcls : s.vm.findClass M2.1.cls = some cellB.cls := by rw [d2, ← hqc]; exact (I.cls hq).2.1
  obtain ⟨c2, r2, m2, q1, q2, q3, q4, kP, hkP, hkPi⟩ := Cond.selects_spec (I.word hse (Or.inl rfl) (a' := args))
  cases hcls.symm.trans q1
  cases (State.methodFound?_of_named g1 hm.2.2.1).symm.trans q2
  cases g1.symm.trans q3
  have hselP : selectMethod e.platform s.vm cellB.cls mk = .method mk := by rw [Launch.admits_selectMethod X.admits]; exact q4
  have hlen := q_vlen (ad := A.1) hn g3 rfl
  have hstk : qvs A.1 (as.reverse ++ .ref b :: rest) = (qvs A.1 as).reverse ++ .ref (A.1 b) :: qvs A.1 rest := by simp [qvs, qv]
  have fin : ∀ vm', Stand p l e R s m args below meth c (T.setVm vm') locs (h.length - n0) (256 * (h.length - n0)) → (∀ target, (∀ acts, Steps p.tables e below (doInvoke e ((T.setVm vm').setTop (F0 m pc (qls A.1 ls) (qvs A.1 rest))) acts mk (qvs A.1 (.ref b :: as)).toArray).1 target) → Steps p.tables e below (T.setTop (F0 m pc (qls A.1 ls) (qvs A.1 (as.reverse ++ .ref b :: rest)))) target) →
      ∃ t, Steps p.tables e below (T.setTop (F0 m pc (qls A.1 ls) (qvs A.1 (as.reverse ++ .ref b :: rest)))) t ∧ qQ A s0 n0 s below P t := by
    intro vm' X' hgo
    obtain ⟨t, b1, b2⟩ := q_go I S (by exact hT) X' hd hls hw (g2.to X'.warmed) hm.2.1 hC hr ht
    exact ⟨t, hgo t b1, b2⟩
  have hTc : T.heap[A.1 b]? = some cellB := by rw [hT]; exact d1
  rcases hl with hl | ⟨host, hl⟩
  · obtain ⟨vm', X', hgo⟩ := X.invokevirtual I.1 I.own (I.word hl (Or.inl rfl)) g1 g2.1 hstM hkP hkPi hm.2.2.1 (a := A.1 b) (cell := cellB) hTc (q_nst d4) hselP g2.1 habM hkP hkPi (g := F0 m pc (qls A.1 ls) (qvs A.1 (as.reverse ++ .ref b :: rest))) rfl (argsL := qvs A.1 as) (rest := qvs A.1 rest) hlen hstk (by rw [I.2.1]; exact hd)
    exact fin vm' X' hgo
  · obtain ⟨vm', X', hgo⟩ := X.invokevirtualNest I.1 I.own (va_Nw.use rfl (va_Nw.warmM I.warm (va_Nw.of rfl (I.glob.1 _ hl)))) g1 g2.1 hstM hkP hkPi hm.2.2.1 (a := A.1 b) (cell := cellB) hTc (q_nst d4) hselP g2.1 habM hkP hkPi (g := F0 m pc (qls A.1 ls) (qvs A.1 (as.reverse ++ .ref b :: rest))) rfl (argsL := qvs A.1 as) (rest := qvs A.1 rest) hlen hstk (by rw [I.2.1]; exact hd)
    exact fin vm' X' hgo
theorem QW.callI {b : Nat} (hd : decode M.2.1 pc = .ok (.invokespecial idx, 3)) (hy : M2.1.name = "<init>") (hv : M2.2.2.2.1 = none) (hno : M2.2.2.2.2 = []) (hcode : Cond.code M2.1 M2.2.1 M2.2.2.1 none ∈ lw_tbl) (hm : qme M2) (hl : qlk M.1.cls idx M2) (hi : Cond.instanceMethod M2.1 ∈ lw_tbl) (hn : qnp M2 = some as.length) (hst : st = as.reverse ++ .ref b :: rest) (hls : ls.length = M.2.2.1) (hw : (rest.map fun v => v.category).sum ≤ 20)
    (hC : QW d M2 0 (qen M2.2.2.1 (.ref b :: as)) [] h P1) (hr : ∀ v h', P1 (.inl v, h') → QW (d + 1) M (pc + 3) ls (v.toList ++ rest) h' P) (ht : ∀ a h', P1 (.inr a, h') → QT (d + 1) M pc ls a h' P) : QW (d + 1) M pc ls st h P := by
  intro l s0 a0 A n0 p e R s m args below meth c H locs I S T hT X
  subst hst
  obtain ⟨mk, methk, ck, kk, g1, g2, g3, g4, g5⟩ := q_meth I hm
  have hpl : e.platform.magicAccessors = ({} : Platform).magicAccessors := by rw [X.admits.platform]
  have hlen : ∀ sig, parseMethodDescriptor M2.1.desc = some sig → (qvs A.1 as).length = sig.parameters.length := fun sig hsig => q_vlen (ad := A.1) hn hsig rfl
  have hstk : qvs A.1 (as.reverse ++ .ref b :: rest) = (qvs A.1 as).reverse ++ .ref (A.1 b) :: qvs A.1 rest := by simp [qvs, qv]
  have fin : ∀ vm', s.WarmedH vm' → (∀ target, (∀ acts, Steps p.tables e below (doInvoke e ((T.setVm vm').setTop (F0 m pc (qls A.1 ls) (qvs A.1 rest))) acts mk (qvs A.1 (.ref b :: as)).toArray).1 target) → Steps p.tables e below (T.setTop (F0 m pc (qls A.1 ls) (qvs A.1 (as.reverse ++ .ref b :: rest)))) target) →
      ∃ t, Steps p.tables e below (T.setTop (F0 m pc (qls A.1 ls) (qvs A.1 (as.reverse ++ .ref b :: rest)))) t ∧ qQ A s0 n0 s below P t := by
    intro vm' hW hgo
    have X' := X.noted hW
    obtain ⟨t, b1, b2⟩ := q_go I S (by exact hT) X' hd hls hw (g2.to X'.warmed) hm.2.1 hC hr ht
    exact ⟨t, hgo t b1, b2⟩
  rcases hl with hl | ⟨host, hl⟩
  · obtain ⟨mk', methM, cM, kP, vm₁, hnamed, -, -, -, -, -, -, -, hW₁, hstep₁⟩ := Steps.initColdArgs (e := e) X.here I.1 X.warmed hpl I.own hy hm.2.2.1 (I.word hl (Or.inl rfl) (a' := args)) (I.word hi (Or.inl rfl)) (I.word hcode (Or.inl rfl)) (f := F0 m pc (qls A.1 ls) (qvs A.1 (as.reverse ++ .ref b :: rest))) rfl hlen hstk (by rw [I.2.1]; exact hd)
    cases g1.symm.trans hnamed
    exact fin vm₁ hW₁ hstep₁
  · obtain ⟨mk', methM, cM, kP, vm₁, hnamed, -, -, -, -, -, -, -, hW₁, hstep₁⟩ := Steps.initColdArgsNest (e := e) X.here I.1 X.warmed hpl I.own hy hm.2.2.1 (va_Nw.use rfl (va_Nw.warmM I.warm (va_Nw.of rfl (I.glob.1 _ hl))) (A := args)) (I.word hi (Or.inl rfl)) (I.word hcode (Or.inl rfl)) (f := F0 m pc (qls A.1 ls) (qvs A.1 (as.reverse ++ .ref b :: rest))) rfl hlen hstk (by rw [I.2.1]; exact hd)
    cases g1.symm.trans hnamed
    exact fin vm₁ hW₁ hstep₁
theorem QW.objInit {b : Nat} (hd : decode M.2.1 pc = .ok (.invokespecial idx, 3)) (hl : Cond.methodLink M.1.cls idx objectInit ∈ lw_tbl) (hi : Cond.instanceMethod objectInit ∈ lw_tbl) (hc : Cond.code objectInit ⟨#[0xb1]⟩ 1 none ∈ lw_tbl) (hls : ls.length = M.2.2.1) (hw : (rest.map fun v => v.category).sum ≤ 20) (kk : QW d M (pc + 3) ls rest h P) : QW d M pc ls (.ref b :: rest) h P := by
  intro l s0 a0 A n0 p e R s m args below meth c H locs I S
  have hf : d + 10 ≤ R.frames := I.2.2.2.2.2.2.2.2.2.2.2.2.2.1
  have hlo : 64 * d + 800 ≤ R.locals := I.2.2.2.2.2.2.2.2.2.2.2.2.2.2.1
  have e1 : (qvs A.1 rest).map (fun v => v.category) = rest.map fun v => v.category := by simp [qvs, List.map_map, Function.comp_def, qv_cat]
  refine W.objInit I.1 I.2.1 I.own (I.word hl (Or.inl rfl)) (I.word hi (Or.inl rfl)) (I.word hc (Or.inl rfl)) rfl (by show (qls A.1 ls).size = _; rw [I.2.2.1, ← hls]; simp [qls]) rfl hd (by omega) (by show 2 * 0 + ((qvs A.1 rest).map fun v => v.category).sum + 12 ≤ R.locals; rw [e1]; omega) ?_
  exact kk I S
end QCR

def q_by (pl : Platform) (s : State) (dc : ClassId) (pc : Nat) (k : ClassId) (y : ExceptionTableEntry) : Prop :=
  covers y pc = false ∨ (y.catchType ≠ 0 ∧ ∃ c, s.vm.ClassLinks pl dc y.catchType c ∧ s.vm.assignable k c = false)
theorem q_row {e : Env} {S : State} {f : JFrame} {a : Addr} {x : ExceptionTableEntry} {t : List ExceptionTableEntry} {c : ClassId} {cell : Cell} (hx : covers x f.pc = true) (h0 : x.catchType ≠ 0) (hl : S.vm.ClassLinks e.platform f.method.cls x.catchType c)
    (hcell : S.heap[a]? = some cell) (hobj : ∀ k, cell.vm ≠ .statics k) (hk : ∃ k, S.vm.classes[cell.cls]? = some k) (hc : ∃ k, S.vm.classes[c]? = some k) {Q : Handler → Pre} {E : CtlPost} {d : Bool} {acts : List Action} :
    wp (findHandler.go f a (x :: t)) Q E e d acts S ↔
      if S.vm.assignable cell.cls c = true then Q (.found x.handlerPc) d acts (S.setVm (S.vm.noted f.method.cls x.catchType (.cls c))) else wp (findHandler.go f a t) Q E e d acts (S.setVm (S.vm.noted f.method.cls x.catchType (.cls c))) := by
  have hal : S.vm.Alike (S.vm.noted f.method.cls x.catchType (.cls c)) := (Vm.Alike.refl S.vm).noted _ _ _
  obtain ⟨ha, ht⟩ := (resolveClass_links e.toSetting hl).op (op := VmOp.resolveClass f.method.cls x.catchType) rfl
  obtain ⟨k1, hk1⟩ := hk
  obtain ⟨k2, hk2⟩ := hc
  obtain ⟨k3, hk3, -⟩ := hal.2.2 _ _ hk1
  obtain ⟨k4, hk4, -⟩ := hal.2.2 _ _ hk2
  have hx' : (decide (x.startPc ≤ f.pc) && decide (f.pc < x.endPc)) = true := hx
  cases hf : S.vm.assignable cell.cls c with
  | true =>
    have hf' : (S.vm.noted f.method.cls x.catchType (.cls c)).assignable cell.cls c = true := by rw [hal.assignable]; exact hf
    simp [findHandler.go, hx', h0, ha, ht, hcell, hobj, hk3, hk4, hf', VmOp.dirties, VmOp.acts]
  | false =>
    have hf' : (S.vm.noted f.method.cls x.catchType (.cls c)).assignable cell.cls c = false := by rw [hal.assignable]; exact hf
    simp [findHandler.go, hx', h0, ha, ht, hcell, hobj, hk3, hk4, hf', VmOp.dirties, VmOp.acts]
theorem q_seek {e : Env} {s : State} {f : JFrame} {a : Addr} {cell : Cell} (hobj : ∀ k, cell.vm ≠ .statics k) {k0 : Class} (hk0 : s.vm.classes[cell.cls]? = some k0) {x : ExceptionTableEntry} {rest : List ExceptionTableEntry} (hx : covers x f.pc = true) (h0 : x.catchType ≠ 0)
    {c : ClassId} (hl : s.vm.ClassLinks e.platform f.method.cls x.catchType c) (hfit : s.vm.assignable cell.cls c = true) :
    ∀ (pre : List ExceptionTableEntry) (S : State), s.WarmedH S.vm → S.heap[a]? = some cell → (∀ y ∈ pre, q_by e.platform s f.method.cls f.pc cell.cls y) →
      ∃ vm' : Vm, s.WarmedH vm' ∧ ∀ (Q : Handler → Pre) (E : CtlPost) (d : Bool) (acts : List Action), wp (findHandler.go f a (pre ++ x :: rest)) Q E e d acts S ↔ Q (.found x.handlerPc) d acts (S.setVm vm') := by
  have link : ∀ (S : State), s.WarmedH S.vm → ∀ (y : ExceptionTableEntry) (b : ClassId), s.vm.ClassLinks e.platform f.method.cls y.catchType b →
      s.WarmedH (S.vm.noted f.method.cls y.catchType (.cls b)) ∧ S.vm.ClassLinks e.platform f.method.cls y.catchType b ∧ (∃ k, S.vm.classes[cell.cls]? = some k) ∧ ∃ k, S.vm.classes[b]? = some k := by
    intro S hW y b hb
    obtain ⟨dk, _, _, kt, hd, _, _, _, _, hkt, _, hopen⟩ := hb.here
    obtain ⟨k1, hk1, -⟩ := hW.alike.2.2 _ _ hk0
    obtain ⟨k2, hk2, -⟩ := hW.alike.2.2 _ _ hkt
    exact ⟨hW.noted hd hopen (State.rightAt_cls hb), hW.classLinks hb, ⟨k1, hk1⟩, ⟨k2, hk2⟩⟩
  intro pre
  induction pre with
  | nil =>
    intro S hW hcell _
    obtain ⟨g1, g2, g3, g4⟩ := link S hW x c hl
    refine ⟨_, g1, fun Q E d acts => ?_⟩
    rw [List.nil_append, q_row hx h0 g2 hcell hobj g3 g4, if_pos (by rw [hW.alike.assignable]; exact hfit)]
  | cons y ys ih =>
    intro S hW hcell hby
    have hys : ∀ z ∈ ys, q_by e.platform s f.method.cls f.pc cell.cls z := fun z hz => hby z (List.mem_cons_of_mem _ hz)
    cases hcov : covers y f.pc with
    | false =>
      obtain ⟨vm', hW', hq⟩ := ih S hW hcell hys
      refine ⟨vm', hW', fun Q E d acts => ?_⟩
      rw [List.cons_append, W.findHandler_go_skip hcov]
      exact hq Q E d acts
    | true =>
      rcases hby y (List.mem_cons_self ..) with h1 | ⟨h1, b, hb, hno⟩
      · rw [h1] at hcov; cases hcov
      · obtain ⟨g1, g2, g3, g4⟩ := link S hW y b hb
        obtain ⟨vm', hW', hq⟩ := ih (S.setVm (S.vm.noted f.method.cls y.catchType (.cls b))) g1 hcell hys
        refine ⟨vm', hW', fun Q E d acts => ?_⟩
        rw [List.cons_append, q_row hcov h1 g2 hcell hobj g3 g4, if_neg (by rw [hW.alike.assignable, hno]; decide)]
        exact hq Q E d acts
theorem q_caught {tb : Tables} {e : Env} {s target : State} {g : JFrame} {c : Code} {below : List Frame} {a : Addr} (h : At s g.method c below) {pc : Nat} {vm' : Vm}
    (hf : ∀ (Q : Handler → Pre) (E : CtlPost) (d : Bool) (acts : List Action), wp (findHandler g a) Q E e d acts ((s.setTop g).pushFrame (.throwing a)) ↔ Q (.found pc) d acts (((s.setTop g).pushFrame (.throwing a)).setVm vm'))
    (hrest : Steps tb e below ((s.setVm vm').setTop { g with pc := pc, stack := [.ref a] }) target) : Steps tb e below ((s.setTop g).pushFrame (.throwing a)) target := by
  obtain ⟨hgo, hw⟩ := h.throwing a
  refine Steps.head hgo hw ?_
  have step : (stepThrowing e ((s.setTop g).pushFrame (.throwing a)) a (.java g :: s.frames.tail)).1 = (((s.setTop g).pushFrame (.throwing a)).setVm vm').setFrames (.java { g with pc := pc, stack := [.ref a] } :: s.frames.tail) := by
    simp only [stepThrowing, searchFrame, vmDo]
    generalize hr : Sem.go _ e false [] _ = res
    obtain ⟨as, rfl, -⟩ := Sem.eq_ok_of hr (a := Handler.found pc) (s' := ((s.setTop g).pushFrame (.throwing a)).setVm vm') (acts' := []) (by simp [hf])
    rfl
  rw [stepThread_throwing (frames_entered h.top _), step]
  obtain ⟨g₀, hg⟩ := Option.isSome_iff_exists.mp h.top
  obtain ⟨r, hr⟩ := State.topJava?_eq_some.mp hg
  have hr' : (s.setVm vm').frames = .java g₀ :: r := hr
  rw [State.setTop_of_frames _ hr'] at hrest
  have e1 : ∀ (u : State) (F G : List Frame), ((u.setFrames F).setVm vm').setFrames G = (u.setVm vm').setFrames G := fun u F G => by
    show ((u.setVm vm').setFrames F).setFrames G = _
    rw [State.setFrames_setFrames]
  rw [hr, List.tail_cons, State.pushFrame, e1, State.setTop_of_frames _ hr, e1]
  exact hrest
section QTR
variable {d : Nat} {M : qM} {pc : Nat} {ls : List Slot} {a : Nat} {h : qH} {P : qE → Prop}
theorem QT.leave (hno : ∀ q ∈ M.2.2.2.2, ¬ (q.1 ≤ pc ∧ pc < q.2.1)) (hp : P (.inr a, h)) : QT d M pc ls a h P := by
  intro l s0 a0 A n0 p e R s m args below meth c T locs I S X st'
  have hout : ∀ x ∈ c.exceptionTable.toList, covers x (F0 m pc (qls A.1 ls) st').pc = false := fun x hx => by
    have h1 := hno (x.startPc, x.endPc, x.handlerPc, x.catchType) (by rw [← I.2.2.2.2.2.2.2.1]; exact List.mem_map.mpr ⟨x, hx, rfl⟩)
    have h2 : ¬ (x.startPc ≤ pc ∧ pc < x.endPc) := h1
    show (decide (x.startPc ≤ pc) && decide (pc < x.endPc)) = false
    simpa using h2
  obtain ⟨g1, g2, g3, g4, g5⟩ := X.leaveThrown (A.1 a) (g := F0 m pc (qls A.1 ls) st') rfl rfl rfl hout (hlocks := I.2.2.2.2.1)
  exact ⟨_, g1, (.inr a, h), hp, g2, g3, g4, locs, g5, S⟩
theorem QT.leave0 (hno : M.2.2.2.2 = []) (hp : P (.inr a, h)) : QT d M pc ls a h P := QT.leave (fun q hq => by rw [hno] at hq; cases hq) hp
end QTR

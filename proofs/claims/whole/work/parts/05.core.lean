abbrev qC : Type := Nat × List Value
abbrev qH : Type := List qC
abbrev qE : Type := (Option Value ⊕ Nat) × qH
abbrev qA : Type := (Nat → Nat) × va_G × Nat
def qCap : Nat := 20000
def qsv (ad : Nat → Nat) : Slot → Slot
  | .val v => .val (qv ad v)
  | x => x
def qls (ad : Nat → Nat) (ls : List Slot) : Array Slot := (ls.map (qsv ad)).toArray
def qvs (ad : Nat → Nat) (st : List Value) : List Value := st.map (qv ad)
def qout (ad : Nat → Nat) : Option Value ⊕ Nat → Outcome
  | .inl v => .returned (v.map (qv ad))
  | .inr a => .threw (ad a)
def qat (A : qA) (a : Nat) (c : qC) (H : Heap) : Prop := ∃ cell : Cell, H[a]? = some cell ∧ cell.cls = A.2.1.1 c.1 ∧ cell.vm ≠ .unknown ∧ cell.vm.isStatics = false ∧ (qown c.1 = true → cell.vm = .none) ∧
  (c.1 < 64 → ∀ (k : Nat) (v : Value), c.2[k]? = some v → cell.slots[A.2.1.2 c.1 k]? = some (qv A.1 v)) ∧
  (64 ≤ c.1 → cell.slots = (c.2.map (qv A.1)).toArray)
def qhr (A : qA) (h : qH) (H : Heap) : Prop := H.size = A.1 h.length ∧ A.2.2 ≤ h.length ∧ ∀ (i : Nat) (c : qC), h[i]? = some c → qat A (A.1 i) c H ∧ (qown c.1 = true → A.2.2 ≤ i)
def qad (A : qA) : Prop := (∀ i, A.2.2 ≤ i → i < 25000 → A.1 (i + 1) = A.1 i + 1) ∧ ∀ i j, i < j → A.2.2 ≤ j → j ≤ 25000 → A.1 i < A.1 j
def qar (t : Nat) : Option FieldType := match t with
  | 64 => some .int
  | 65 => some .boolean
  | 66 => some .char
  | 67 => some .long
  | 68 => some (.object "BagPlanner$Table")
  | 69 => some (.object "BagPlanner$Question")
  | 70 => some (.object "BagPlanner$Block")
  | 80 => some .int
  | 81 => some .byte
  | _ => none
def qsx : List Nat := [57, 65, 71, 73, 75, 77]
def qsw : List (List Int32) := [[61, 60, 44, 46, 43, 45, 94], [115, 101, 116], [111, 117, 116], [111, 102], [119, 104, 101, 114, 101], [97, 110, 100]]
def qsn : List Nat := [7, 3, 3, 2, 5, 3]
def qsT (i : Nat) : Term := .string "BagPlanner$Tokens" (qsx.getD i 0)
def qStr (s0 : State) (a0 : Array Value) (A : qA) : Prop :=
  vk_S 6 qsn qsw (fun i => A.1 (30001 + i)) (fun i => A.1 (30007 + i)) (fun q => s0.heap.size ≤ q) s0 s0.heap ∧ (∀ i : Nat, i < 6 → (qsT i).eval a0 s0 none [] s0 = some (.ref (A.1 (30001 + i)))) ∧
  ((Term.static "jdk/internal/util/Preconditions" "SIOOBE_FORMATTER" "Ljava/util/function/BiFunction;").eval a0 s0 none [] s0 = some .null ∨ (Term.static "jdk/internal/util/Preconditions" "SIOOBE_FORMATTER" "Ljava/util/function/BiFunction;").eval a0 s0 none [] s0 = some (.ref (A.1 30000)))
def qGl (l : Launch) (s0 : State) (a0 : Array Value) (A : qA) : Prop :=
  (∀ w ∈ lw_tbl, w.before a0 s0 = true) ∧ l.stackTraces = false ∧ qad A ∧ A.1 A.2.2 = s0.heap.size ∧
  (∀ (c : Nat) (q : vw_C), classes[c]? = some q → u_Kn s0 q.1 q.2.1 q.2.2 (A.2.1.1 c) (A.2.1.2 c)) ∧
  (∀ (t : Nat) (ty : FieldType), qar t = some ty → ∃ (kA : Class) (comp : ClassId), s0.vm.classes[A.2.1.1 t]? = some kA ∧ kA.kind = .array comp ty) ∧
  (∀ (t : Nat) (ty : FieldType), qar t = some ty → t < 80 → va_RA s0 (A.2.1.1 t) ty) ∧ (Jvm.Cond.and given_1 narrow_1).before a0 s0 = true ∧ qStr s0 a0 A
def qIn (l : Launch) (s0 : State) (a0 : Array Value) (A : qA) (M : qM) (d n0 : Nat) (p : Program) (R : Room) (s : State) (m : MethodId) (meth : Method) (c : Code) : Prop :=
  p.tables.exec = Jvm.exec ∧ c.code = M.2.1 ∧ c.maxLocals = M.2.2.1 ∧ meth.sig.returnType = M.2.2.2.1 ∧ meth.locks = false ∧ meth.name = M.1.name ∧ s.vm.findClass M.1.cls = some m.cls ∧
  (c.exceptionTable.toList.map (fun x => (x.startPc, x.endPc, x.handlerPc, x.catchType)) = M.2.2.2.2) ∧ s0.WarmedH s.vm ∧
  (∀ q : Nat, q < A.1 A.2.2 → s.heap[q]? = s0.heap[q]?) ∧ (∀ (q : Nat) (cell : Cell), A.1 A.2.2 ≤ q → s.heap[q]? = some cell → cell.vm.isStatics = false) ∧ s.heap.size = A.1 n0 ∧ A.2.2 ≤ n0 ∧
  d + 10 ≤ R.frames ∧ 64 * d + 800 ≤ R.locals ∧ qCap ≤ R.cells + n0 ∧ 256 * qCap ≤ R.slots + 256 * n0 ∧ qGl l s0 a0 A
def qSt (A : qA) (s0 : State) (n0 : Nat) (h : qH) (H : Heap) (locs : List Loc) : Prop :=
  qhr A h H ∧ (∀ q : Nat, q < A.1 A.2.2 → H[q]? = s0.heap[q]?) ∧ (∀ q ∈ locs, A.1 A.2.2 ≤ q.base) ∧ n0 ≤ h.length ∧ h.length ≤ qCap
def qQ (A : qA) (s0 : State) (n0 : Nat) (s : State) (below : List Frame) (P : qE → Prop) : State → Prop := fun t =>
  ∃ r : qE, P r ∧ t.status = .running ∧ Ended t below (qout A.1 r.1) ∧ s.WarmedH t.vm ∧ ∃ L : List Loc, s.sameButNew ({ t with vm := s.vm } : State) L (r.2.length - n0) (256 * (r.2.length - n0)) ∧ qSt A s0 n0 r.2 t.heap L
def QW (d : Nat) (M : qM) (pc : Nat) (ls : List Slot) (st : List Value) (h : qH) (P : qE → Prop) : Prop :=
  ∀ ⦃l : Launch⦄ ⦃s0 : State⦄ ⦃a0 : Array Value⦄ ⦃A : qA⦄ ⦃n0 : Nat⦄ ⦃p : Program⦄ ⦃e : Env⦄ ⦃R : Room⦄ ⦃s : State⦄ ⦃m : MethodId⦄ ⦃args : Array Value⦄ ⦃below : List Frame⦄ ⦃meth : Method⦄ ⦃c : Code⦄ ⦃H : Heap⦄ ⦃locs : List Loc⦄,
    qIn l s0 a0 A M d n0 p R s m meth c → qSt A s0 n0 h H locs → W p l e R s m args below meth c H locs (h.length - n0) (256 * (h.length - n0)) (qQ A s0 n0 s below P) (F0 m pc (qls A.1 ls) (qvs A.1 st))
theorem QW.mono {d : Nat} {M : qM} {pc : Nat} {ls : List Slot} {st : List Value} {h : qH} {P P' : qE → Prop} (k : QW d M pc ls st h P) (hP : ∀ r, P r → P' r) : QW d M pc ls st h P' := by
  intro l s0 a0 A n0 p e R s m args below meth c H locs I S T hT X
  obtain ⟨t, a, r, hr, b⟩ := k I S T hT X
  exact ⟨t, a, r, hP r hr, b⟩
theorem qls_get {ad : Nat → Nat} {ls : List Slot} {i : Nat} {v : Value} (h : ls[i]? = some (.val v)) : (qls ad ls)[i]? = some (.val (qv ad v)) := by
  simp [qls, h, qsv]
def qsto (ls : List Slot) (i : Nat) (v : Value) : Option (List Slot) := match ls[i]? with
  | some .unset => some (ls.set i (.val v))
  | some (.val (.int _)) => some (ls.set i (.val v))
  | some (.val (.ref _)) => some (ls.set i (.val v))
  | some (.val .null) => some (ls.set i (.val v))
  | _ => none
theorem qls_set (ad : Nat → Nat) (ls : List Slot) (i : Nat) (v : Value) : (qls ad ls).setIfInBounds i (.val (qv ad v)) = qls ad (ls.set i (.val v)) := by
  simp [qls, List.map_set, qsv]
theorem qsto_ok {ad : Nat → Nat} {ls ls' : List Slot} {i : Nat} {v : Value} (h : qsto ls i v = some ls') (hc : v.category = 1) : storeLocals (qls ad ls) i (qv ad v) = some (qls ad ls') := by
  have hc' : (qv ad v).category = 1 := by cases v <;> first | exact hc | rfl
  unfold qsto at h
  cases hg : ls[i]? with
  | none => rw [hg] at h; cases h
  | some x =>
    have hi : i < ls.length := (List.getElem?_eq_some_iff.mp hg).1
    have hi2 : i < (qls ad ls).size := by simpa [qls] using hi
    have hg2 : (qls ad ls)[i]? = some (qsv ad x) := by simp [qls, hg]
    have key : storeSelf (qls ad ls) i (qv ad v) = some (qls ad (ls.set i (.val v))) := by
      simp [storeSelf, setAt, hi2, hc', qls_set]
    rw [hg] at h
    cases x with
    | unset => cases h; simp [storeLocals, hg2, qsv, key]
    | second => cases h
    | val w =>
      cases w with
      | int z =>
        cases h
        have hg3 : (qls ad ls)[i]? = some (.val (.int z)) := hg2
        simp [storeLocals, hg3, Value.category, key]
      | ref z =>
        cases h
        have hg3 : (qls ad ls)[i]? = some (.val (.ref (ad z))) := hg2
        simp [storeLocals, hg3, Value.category, key]
      | null =>
        cases h
        have hg3 : (qls ad ls)[i]? = some (.val (.null)) := hg2
        simp [storeLocals, hg3, Value.category, key]
      | _ => cases h

section QS
variable {d : Nat} {M : qM} {pc : Nat} {ls : List Slot} {st : List Value} {h : qH} {P : qE → Prop}
theorem QW.iconst {n : Int} {v : Int32} (hd : decode M.2.1 pc = .ok (.iconst n, 1)) (hv : Int32.ofInt n = v) (kk : QW d M (pc + 1) ls (.int v :: st) h P) : QW d M pc ls st h P := by
  intro l s0 a0 A n0 p e R s m args below meth c H locs I S
  exact lv_iconst I.1 I.2.1 hd hv (kk I S)
theorem QW.bipush {n : Int} {v : Int32} (hd : decode M.2.1 pc = .ok (.bipush n, 2)) (hv : (Int8.ofInt n).toInt32 = v) (kk : QW d M (pc + 2) ls (.int v :: st) h P) : QW d M pc ls st h P := by
  intro l s0 a0 A n0 p e R s m args below meth c H locs I S
  exact lv_bipush I.1 I.2.1 hd hv (kk I S)
theorem QW.sipush {n : Int} {v : Int32} (hd : decode M.2.1 pc = .ok (.sipush n, 3)) (hv : (Int16.ofInt n).toInt32 = v) (kk : QW d M (pc + 3) ls (.int v :: st) h P) : QW d M pc ls st h P := by
  intro l s0 a0 A n0 p e R s m args below meth c H locs I S
  exact lv_sipush I.1 I.2.1 hd hv (kk I S)
theorem QW.lconst {n : Fin 2} {v : Int64} (hd : decode M.2.1 pc = .ok (.lconst n, 1)) (hv : Int64.ofNat (n : Nat) = v) (kk : QW d M (pc + 1) ls (.long v :: st) h P) : QW d M pc ls st h P := by
  intro l s0 a0 A n0 p e R s m args below meth c H locs I S
  exact lv_lconst I.1 I.2.1 hd hv (kk I S)
theorem QW.iload_n {k : Fin 4} {i : Nat} {x : Int32} (hd : decode M.2.1 pc = .ok (.iload_n k, 1)) (hi : (k : Nat) = i) (hl : ls[i]? = some (.val (.int x))) (kk : QW d M (pc + 1) ls (.int x :: st) h P) : QW d M pc ls st h P := by
  intro l s0 a0 A n0 p e R s m args below meth c H locs I S
  exact lv_iload_n I.1 I.2.1 hd hi (qls_get hl) (kk I S)
theorem QW.iload {i : Nat} {x : Int32} (hd : decode M.2.1 pc = .ok (.iload i, 2)) (hl : ls[i]? = some (.val (.int x))) (kk : QW d M (pc + 2) ls (.int x :: st) h P) : QW d M pc ls st h P := by
  intro l s0 a0 A n0 p e R s m args below meth c H locs I S
  exact lv_iload I.1 I.2.1 hd (qls_get hl) (kk I S)
theorem QW.lload_n {k : Fin 4} {i : Nat} {x : Int64} (hd : decode M.2.1 pc = .ok (.lload_n k, 1)) (hi : (k : Nat) = i) (hl : ls[i]? = some (.val (.long x))) (kk : QW d M (pc + 1) ls (.long x :: st) h P) : QW d M pc ls st h P := by
  intro l s0 a0 A n0 p e R s m args below meth c H locs I S
  exact lv_lload_n I.1 I.2.1 hd hi (qls_get hl) (kk I S)
theorem QW.lload {i : Nat} {x : Int64} (hd : decode M.2.1 pc = .ok (.lload i, 2)) (hl : ls[i]? = some (.val (.long x))) (kk : QW d M (pc + 2) ls (.long x :: st) h P) : QW d M pc ls st h P := by
  intro l s0 a0 A n0 p e R s m args below meth c H locs I S
  exact lv_lload I.1 I.2.1 hd (qls_get hl) (kk I S)
theorem QW.aload_n {k : Fin 4} {i : Nat} {x : Nat} (hd : decode M.2.1 pc = .ok (.aload_n k, 1)) (hi : (k : Nat) = i) (hl : ls[i]? = some (.val (.ref x))) (kk : QW d M (pc + 1) ls (.ref x :: st) h P) : QW d M pc ls st h P := by
  intro l s0 a0 A n0 p e R s m args below meth c H locs I S
  exact lv_aload_n I.1 I.2.1 hd hi (qls_get hl) (kk I S)
theorem QW.aload {i : Nat} {x : Nat} (hd : decode M.2.1 pc = .ok (.aload i, 2)) (hl : ls[i]? = some (.val (.ref x))) (kk : QW d M (pc + 2) ls (.ref x :: st) h P) : QW d M pc ls st h P := by
  intro l s0 a0 A n0 p e R s m args below meth c H locs I S
  exact lv_aload I.1 I.2.1 hd (qls_get hl) (kk I S)
theorem QW.istore_n {k : Fin 4} {i : Nat} {x : Int32} {ls' : List Slot} (hd : decode M.2.1 pc = .ok (.istore_n k, 1)) (hi : (k : Nat) = i) (hs : qsto ls i (.int x) = some ls') (kk : QW d M (pc + 1) ls' st h P) : QW d M pc ls (.int x :: st) h P := by
  subst hi
  intro l s0 a0 A n0 p e R s m args below meth c H locs I S T hT X
  have e' := qsto_ok (ad := A.1) hs rfl
  obtain ⟨hx, hb⟩ : p.tables.exec = Jvm.exec ∧ c.code = M.2.1 := ⟨I.1, I.2.1⟩
  obtain ⟨t, a, b⟩ := kk I S T hT X
  refine ⟨t, ?_, b⟩
  show Steps p.tables e below (T.setTop (F0 m pc (qls A.1 ls) (.int x :: qvs A.1 st))) t
  have e' : storeLocals (qls A.1 ls) _ (.int x) = some (qls A.1 ls') := e'
  jvm_step X.here [X.here.top, ↓top_set X.here.top, hx, hb, hd, e']
  exact a
theorem QW.istore {i : Nat} {x : Int32} {ls' : List Slot} (hd : decode M.2.1 pc = .ok (.istore i, 2)) (hs : qsto ls i (.int x) = some ls') (kk : QW d M (pc + 2) ls' st h P) : QW d M pc ls (.int x :: st) h P := by
  intro l s0 a0 A n0 p e R s m args below meth c H locs I S T hT X
  have e' := qsto_ok (ad := A.1) hs rfl
  obtain ⟨hx, hb⟩ : p.tables.exec = Jvm.exec ∧ c.code = M.2.1 := ⟨I.1, I.2.1⟩
  obtain ⟨t, a, b⟩ := kk I S T hT X
  refine ⟨t, ?_, b⟩
  show Steps p.tables e below (T.setTop (F0 m pc (qls A.1 ls) (.int x :: qvs A.1 st))) t
  have e' : storeLocals (qls A.1 ls) _ (.int x) = some (qls A.1 ls') := e'
  jvm_step X.here [X.here.top, ↓top_set X.here.top, hx, hb, hd, e']
  exact a
theorem QW.astore_n {k : Fin 4} {i : Nat} {x : Nat} {ls' : List Slot} (hd : decode M.2.1 pc = .ok (.astore_n k, 1)) (hi : (k : Nat) = i) (hs : qsto ls i (.ref x) = some ls') (kk : QW d M (pc + 1) ls' st h P) : QW d M pc ls (.ref x :: st) h P := by
  subst hi
  intro l s0 a0 A n0 p e R s m args below meth c H locs I S T hT X
  have e' := qsto_ok (ad := A.1) hs rfl
  obtain ⟨hx, hb⟩ : p.tables.exec = Jvm.exec ∧ c.code = M.2.1 := ⟨I.1, I.2.1⟩
  obtain ⟨t, a, b⟩ := kk I S T hT X
  refine ⟨t, ?_, b⟩
  show Steps p.tables e below (T.setTop (F0 m pc (qls A.1 ls) (.ref (A.1 x) :: qvs A.1 st))) t
  have e' : storeLocals (qls A.1 ls) _ (.ref (A.1 x)) = some (qls A.1 ls') := e'
  jvm_step X.here [X.here.top, ↓top_set X.here.top, hx, hb, hd, e', Value.isRef]
  exact a
theorem QW.astore {i : Nat} {x : Nat} {ls' : List Slot} (hd : decode M.2.1 pc = .ok (.astore i, 2)) (hs : qsto ls i (.ref x) = some ls') (kk : QW d M (pc + 2) ls' st h P) : QW d M pc ls (.ref x :: st) h P := by
  intro l s0 a0 A n0 p e R s m args below meth c H locs I S T hT X
  have e' := qsto_ok (ad := A.1) hs rfl
  obtain ⟨hx, hb⟩ : p.tables.exec = Jvm.exec ∧ c.code = M.2.1 := ⟨I.1, I.2.1⟩
  obtain ⟨t, a, b⟩ := kk I S T hT X
  refine ⟨t, ?_, b⟩
  show Steps p.tables e below (T.setTop (F0 m pc (qls A.1 ls) (.ref (A.1 x) :: qvs A.1 st))) t
  have e' : storeLocals (qls A.1 ls) _ (.ref (A.1 x)) = some (qls A.1 ls') := e'
  jvm_step X.here [X.here.top, ↓top_set X.here.top, hx, hb, hd, e', Value.isRef]
  exact a
theorem QW.iinc {i : Nat} {n : Int} {x : Int32} {ls' : List Slot} (hd : decode M.2.1 pc = .ok (.iinc i n, 3)) (hl : ls[i]? = some (.val (.int x))) (hs : qsto ls i (.int (x + Int32.ofInt n)) = some ls') (kk : QW d M (pc + 3) ls' st h P) : QW d M pc ls st h P := by
  intro l s0 a0 A n0 p e R s m args below meth c H locs I S T hT X
  have e' : storeLocals (qls A.1 ls) i (.int (x + Int32.ofInt n)) = some (qls A.1 ls') := qsto_ok (ad := A.1) hs rfl
  have hg : (qls A.1 ls)[i]? = some (.val (.int x)) := qls_get hl
  obtain ⟨hx, hb⟩ : p.tables.exec = Jvm.exec ∧ c.code = M.2.1 := ⟨I.1, I.2.1⟩
  obtain ⟨t, a, b⟩ := kk I S T hT X
  refine ⟨t, ?_, b⟩
  jvm_step X.here [X.here.top, ↓top_set X.here.top, hx, hb, hd, hg, e']
  exact a
theorem QW.iadd {x y : Int32} (hd : decode M.2.1 pc = .ok (.iadd, 1)) (kk : QW d M (pc + 1) ls (.int (x + y) :: st) h P) : QW d M pc ls (.int y :: .int x :: st) h P := by
  intro l s0 a0 A n0 p e R s m args below meth c H locs I S
  exact lv_iadd I.1 I.2.1 hd (kk I S)
theorem QW.isub {x y : Int32} (hd : decode M.2.1 pc = .ok (.isub, 1)) (kk : QW d M (pc + 1) ls (.int (x - y) :: st) h P) : QW d M pc ls (.int y :: .int x :: st) h P := by
  intro l s0 a0 A n0 p e R s m args below meth c H locs I S
  exact lv_isub I.1 I.2.1 hd (kk I S)
theorem QW.imul {x y : Int32} (hd : decode M.2.1 pc = .ok (.imul, 1)) (kk : QW d M (pc + 1) ls (.int (x * y) :: st) h P) : QW d M pc ls (.int y :: .int x :: st) h P := by
  intro l s0 a0 A n0 p e R s m args below meth c H locs I S
  exact lv_imul I.1 I.2.1 hd (kk I S)
theorem QW.iand {x y : Int32} (hd : decode M.2.1 pc = .ok (.iand, 1)) (kk : QW d M (pc + 1) ls (.int (x &&& y) :: st) h P) : QW d M pc ls (.int y :: .int x :: st) h P := by
  intro l s0 a0 A n0 p e R s m args below meth c H locs I S
  exact lv_iand I.1 I.2.1 hd (kk I S)
theorem QW.ior {x y : Int32} (hd : decode M.2.1 pc = .ok (.ior, 1)) (kk : QW d M (pc + 1) ls (.int (x ||| y) :: st) h P) : QW d M pc ls (.int y :: .int x :: st) h P := by
  intro l s0 a0 A n0 p e R s m args below meth c H locs I S
  exact lv_ior I.1 I.2.1 hd (kk I S)
theorem QW.ixor {x y : Int32} (hd : decode M.2.1 pc = .ok (.ixor, 1)) (kk : QW d M (pc + 1) ls (.int (x ^^^ y) :: st) h P) : QW d M pc ls (.int y :: .int x :: st) h P := by
  intro l s0 a0 A n0 p e R s m args below meth c H locs I S
  exact lv_ixor I.1 I.2.1 hd (kk I S)
theorem QW.ishl {x y : Int32} (hd : decode M.2.1 pc = .ok (.ishl, 1)) (kk : QW d M (pc + 1) ls (.int (x <<< (y &&& 31)) :: st) h P) : QW d M pc ls (.int y :: .int x :: st) h P := by
  intro l s0 a0 A n0 p e R s m args below meth c H locs I S
  exact lv_ishl I.1 I.2.1 hd (kk I S)
theorem QW.ishr {x y : Int32} (hd : decode M.2.1 pc = .ok (.ishr, 1)) (kk : QW d M (pc + 1) ls (.int (x >>> (y &&& 31)) :: st) h P) : QW d M pc ls (.int y :: .int x :: st) h P := by
  intro l s0 a0 A n0 p e R s m args below meth c H locs I S
  exact lv_ishr I.1 I.2.1 hd (kk I S)
theorem QW.idiv {x y : Int32} (hd : decode M.2.1 pc = .ok (.idiv, 1)) (hne : ¬ y = 0) (kk : QW d M (pc + 1) ls (.int (x / y) :: st) h P) : QW d M pc ls (.int y :: .int x :: st) h P := by
  intro l s0 a0 A n0 p e R s m args below meth c H locs I S
  exact lv_idiv I.1 I.2.1 hd hne (kk I S)
theorem QW.irem {x y : Int32} (hd : decode M.2.1 pc = .ok (.irem, 1)) (hne : ¬ y = 0) (kk : QW d M (pc + 1) ls (.int (x - x / y * y) :: st) h P) : QW d M pc ls (.int y :: .int x :: st) h P := by
  intro l s0 a0 A n0 p e R s m args below meth c H locs I S
  exact lv_irem I.1 I.2.1 hd hne (kk I S)
theorem QW.ineg {x : Int32} (hd : decode M.2.1 pc = .ok (.ineg, 1)) (kk : QW d M (pc + 1) ls (.int (-x) :: st) h P) : QW d M pc ls (.int x :: st) h P := by
  intro l s0 a0 A n0 p e R s m args below meth c H locs I S
  exact lv_ineg I.1 I.2.1 hd (kk I S)
theorem QW.ladd {x y : Int64} (hd : decode M.2.1 pc = .ok (.ladd, 1)) (kk : QW d M (pc + 1) ls (.long (x + y) :: st) h P) : QW d M pc ls (.long y :: .long x :: st) h P := by
  intro l s0 a0 A n0 p e R s m args below meth c H locs I S
  exact lv_ladd I.1 I.2.1 hd (kk I S)
theorem QW.lsub {x y : Int64} (hd : decode M.2.1 pc = .ok (.lsub, 1)) (kk : QW d M (pc + 1) ls (.long (x - y) :: st) h P) : QW d M pc ls (.long y :: .long x :: st) h P := by
  intro l s0 a0 A n0 p e R s m args below meth c H locs I S
  exact lv_lsub I.1 I.2.1 hd (kk I S)
theorem QW.land {x y : Int64} (hd : decode M.2.1 pc = .ok (.land, 1)) (kk : QW d M (pc + 1) ls (.long (x &&& y) :: st) h P) : QW d M pc ls (.long y :: .long x :: st) h P := by
  intro l s0 a0 A n0 p e R s m args below meth c H locs I S
  exact lv_land I.1 I.2.1 hd (kk I S)
theorem QW.lor {x y : Int64} (hd : decode M.2.1 pc = .ok (.lor, 1)) (kk : QW d M (pc + 1) ls (.long (x ||| y) :: st) h P) : QW d M pc ls (.long y :: .long x :: st) h P := by
  intro l s0 a0 A n0 p e R s m args below meth c H locs I S
  exact lv_lor I.1 I.2.1 hd (kk I S)
theorem QW.i2l {x : Int32} (hd : decode M.2.1 pc = .ok (.i2l, 1)) (kk : QW d M (pc + 1) ls (.long x.toInt64 :: st) h P) : QW d M pc ls (.int x :: st) h P := by
  intro l s0 a0 A n0 p e R s m args below meth c H locs I S
  exact lv_i2l I.1 I.2.1 hd rfl (kk I S)
theorem QW.l2i {x : Int64} (hd : decode M.2.1 pc = .ok (.l2i, 1)) (kk : QW d M (pc + 1) ls (.int x.toInt32 :: st) h P) : QW d M pc ls (.long x :: st) h P := by
  intro l s0 a0 A n0 p e R s m args below meth c H locs I S
  exact lv_l2i I.1 I.2.1 hd rfl (kk I S)
theorem QW.i2c {x : Int32} (hd : decode M.2.1 pc = .ok (.i2c, 1)) (kk : QW d M (pc + 1) ls (.int (x.toUInt32 % 65536).toInt32 :: st) h P) : QW d M pc ls (.int x :: st) h P := by
  intro l s0 a0 A n0 p e R s m args below meth c H locs I S
  exact lv_i2c I.1 I.2.1 hd rfl (kk I S)
theorem QW.lushr {x : Int64} {y : Int32} (hd : decode M.2.1 pc = .ok (.lushr, 1)) (kk : QW d M (pc + 1) ls (.long (x.toUInt64 >>> (y.toInt64.toUInt64 &&& Int64.toUInt64 63)).toInt64 :: st) h P) : QW d M pc ls (.int y :: .long x :: st) h P := by
  intro l s0 a0 A n0 p e R s m args below meth c H locs I S
  exact lv_lushr I.1 I.2.1 hd rfl (kk I S)
theorem QW.lshl {x : Int64} {y : Int32} (hd : decode M.2.1 pc = .ok (.lshl, 1)) (kk : QW d M (pc + 1) ls (.long (x <<< (y.toInt64 &&& 63)) :: st) h P) : QW d M pc ls (.int y :: .long x :: st) h P := by
  intro l s0 a0 A n0 p e R s m args below meth c H locs I S
  exact lv_lshl I.1 I.2.1 hd rfl (kk I S)
theorem QW.lcmp {x y : Int64} (hd : decode M.2.1 pc = .ok (.lcmp, 1)) (kk : QW d M (pc + 1) ls (.int (lg_cmp x y) :: st) h P) : QW d M pc ls (.long y :: .long x :: st) h P := by
  intro l s0 a0 A n0 p e R s m args below meth c H locs I S
  exact W.lcmp I.1 I.2.1 hd (kk I S)
theorem qv_cat (ad : Nat → Nat) (v : Value) : (qv ad v).category = v.category := by cases v <;> rfl
theorem QW.dup {v : Value} (hd : decode M.2.1 pc = .ok (.dup, 1)) (hc : v.category = 1) (kk : QW d M (pc + 1) ls (v :: v :: st) h P) : QW d M pc ls (v :: st) h P := by
  intro l s0 a0 A n0 p e R s m args below meth c H locs I S
  exact lv_dup I.1 I.2.1 hd ((qv_cat _ _).trans hc) (kk I S)
theorem QW.pop {v : Value} (hd : decode M.2.1 pc = .ok (.pop, 1)) (hc : v.category = 1) (kk : QW d M (pc + 1) ls st h P) : QW d M pc ls (v :: st) h P := by
  intro l s0 a0 A n0 p e R s m args below meth c H locs I S
  exact lv_pop I.1 I.2.1 hd ((qv_cat _ _).trans hc) (kk I S)
theorem QW.dup_x1 {v w : Value} (hd : decode M.2.1 pc = .ok (.dup_x1, 1)) (hc : v.category = 1) (hc2 : w.category = 1) (kk : QW d M (pc + 1) ls (v :: w :: v :: st) h P) : QW d M pc ls (v :: w :: st) h P := by
  intro l s0 a0 A n0 p e R s m args below meth c H locs I S
  exact lv_dup_x1 I.1 I.2.1 hd ((qv_cat _ _).trans hc) ((qv_cat _ _).trans hc2) (kk I S)
theorem QW.dup_x2 {v w z : Value} (hd : decode M.2.1 pc = .ok (.dup_x2, 1)) (hc : v.category = 1) (hc2 : w.category = 1) (hc3 : z.category = 1) (kk : QW d M (pc + 1) ls (v :: w :: z :: v :: st) h P) : QW d M pc ls (v :: w :: z :: st) h P := by
  intro l s0 a0 A n0 p e R s m args below meth c H locs I S
  exact lv_dup_x2 I.1 I.2.1 hd ((qv_cat _ _).trans hc) ((qv_cat _ _).trans hc2) ((qv_cat _ _).trans hc3) (kk I S)
theorem QW.dup2 {v w : Value} (hd : decode M.2.1 pc = .ok (.dup2, 1)) (hc : v.category = 1) (hc2 : w.category = 1) (kk : QW d M (pc + 1) ls (v :: w :: v :: w :: st) h P) : QW d M pc ls (v :: w :: st) h P := by
  intro l s0 a0 A n0 p e R s m args below meth c H locs I S
  exact lv_dup2_11 I.1 I.2.1 hd ((qv_cat _ _).trans hc) ((qv_cat _ _).trans hc2) (kk I S)
theorem QW.if_eq {x : Int32} {off : Int} {tgt : Nat} (hd : decode M.2.1 pc = .ok (.ifCond .eq off, 3)) (ht : (pc : Int) + off = (tgt : Int)) (kt : x = 0 → QW d M tgt ls st h P) (kf : ¬ x = 0 → QW d M (pc + 3) ls st h P) : QW d M pc ls (.int x :: st) h P := by
  intro l s0 a0 A n0 p e R s m args below meth c H locs I S
  exact lv_if_eq I.1 I.2.1 hd ht (fun z => kt z I S) (fun z => kf z I S)
theorem QW.icmp_eq {x y : Int32} {off : Int} {tgt : Nat} (hd : decode M.2.1 pc = .ok (.if_icmp .eq off, 3)) (ht : (pc : Int) + off = (tgt : Int)) (kt : x = y → QW d M tgt ls st h P) (kf : ¬ x = y → QW d M (pc + 3) ls st h P) : QW d M pc ls (.int y :: .int x :: st) h P := by
  intro l s0 a0 A n0 p e R s m args below meth c H locs I S
  exact lv_icmp_eq I.1 I.2.1 hd ht (fun z => kt z I S) (fun z => kf z I S)
theorem QW.if_ne {x : Int32} {off : Int} {tgt : Nat} (hd : decode M.2.1 pc = .ok (.ifCond .ne off, 3)) (ht : (pc : Int) + off = (tgt : Int)) (kt : ¬ x = 0 → QW d M tgt ls st h P) (kf : x = 0 → QW d M (pc + 3) ls st h P) : QW d M pc ls (.int x :: st) h P := by
  intro l s0 a0 A n0 p e R s m args below meth c H locs I S
  exact lv_if_ne I.1 I.2.1 hd ht (fun z => kt z I S) (fun z => kf z I S)
theorem QW.icmp_ne {x y : Int32} {off : Int} {tgt : Nat} (hd : decode M.2.1 pc = .ok (.if_icmp .ne off, 3)) (ht : (pc : Int) + off = (tgt : Int)) (kt : ¬ x = y → QW d M tgt ls st h P) (kf : x = y → QW d M (pc + 3) ls st h P) : QW d M pc ls (.int y :: .int x :: st) h P := by
  intro l s0 a0 A n0 p e R s m args below meth c H locs I S
  exact lv_icmp_ne I.1 I.2.1 hd ht (fun z => kt z I S) (fun z => kf z I S)
theorem QW.if_lt {x : Int32} {off : Int} {tgt : Nat} (hd : decode M.2.1 pc = .ok (.ifCond .lt off, 3)) (ht : (pc : Int) + off = (tgt : Int)) (kt : x < 0 → QW d M tgt ls st h P) (kf : ¬ x < 0 → QW d M (pc + 3) ls st h P) : QW d M pc ls (.int x :: st) h P := by
  intro l s0 a0 A n0 p e R s m args below meth c H locs I S
  exact lv_if_lt I.1 I.2.1 hd ht (fun z => kt z I S) (fun z => kf z I S)
theorem QW.icmp_lt {x y : Int32} {off : Int} {tgt : Nat} (hd : decode M.2.1 pc = .ok (.if_icmp .lt off, 3)) (ht : (pc : Int) + off = (tgt : Int)) (kt : x < y → QW d M tgt ls st h P) (kf : ¬ x < y → QW d M (pc + 3) ls st h P) : QW d M pc ls (.int y :: .int x :: st) h P := by
  intro l s0 a0 A n0 p e R s m args below meth c H locs I S
  exact lv_icmp_lt I.1 I.2.1 hd ht (fun z => kt z I S) (fun z => kf z I S)
theorem QW.if_ge {x : Int32} {off : Int} {tgt : Nat} (hd : decode M.2.1 pc = .ok (.ifCond .ge off, 3)) (ht : (pc : Int) + off = (tgt : Int)) (kt : 0 ≤ x → QW d M tgt ls st h P) (kf : ¬ 0 ≤ x → QW d M (pc + 3) ls st h P) : QW d M pc ls (.int x :: st) h P := by
  intro l s0 a0 A n0 p e R s m args below meth c H locs I S
  exact lv_if_ge I.1 I.2.1 hd ht (fun z => kt z I S) (fun z => kf z I S)
theorem QW.icmp_ge {x y : Int32} {off : Int} {tgt : Nat} (hd : decode M.2.1 pc = .ok (.if_icmp .ge off, 3)) (ht : (pc : Int) + off = (tgt : Int)) (kt : y ≤ x → QW d M tgt ls st h P) (kf : ¬ y ≤ x → QW d M (pc + 3) ls st h P) : QW d M pc ls (.int y :: .int x :: st) h P := by
  intro l s0 a0 A n0 p e R s m args below meth c H locs I S
  exact lv_icmp_ge I.1 I.2.1 hd ht (fun z => kt z I S) (fun z => kf z I S)
theorem QW.if_gt {x : Int32} {off : Int} {tgt : Nat} (hd : decode M.2.1 pc = .ok (.ifCond .gt off, 3)) (ht : (pc : Int) + off = (tgt : Int)) (kt : 0 < x → QW d M tgt ls st h P) (kf : ¬ 0 < x → QW d M (pc + 3) ls st h P) : QW d M pc ls (.int x :: st) h P := by
  intro l s0 a0 A n0 p e R s m args below meth c H locs I S
  exact lv_if_gt I.1 I.2.1 hd ht (fun z => kt z I S) (fun z => kf z I S)
theorem QW.icmp_gt {x y : Int32} {off : Int} {tgt : Nat} (hd : decode M.2.1 pc = .ok (.if_icmp .gt off, 3)) (ht : (pc : Int) + off = (tgt : Int)) (kt : y < x → QW d M tgt ls st h P) (kf : ¬ y < x → QW d M (pc + 3) ls st h P) : QW d M pc ls (.int y :: .int x :: st) h P := by
  intro l s0 a0 A n0 p e R s m args below meth c H locs I S
  exact lv_icmp_gt I.1 I.2.1 hd ht (fun z => kt z I S) (fun z => kf z I S)
theorem QW.if_le {x : Int32} {off : Int} {tgt : Nat} (hd : decode M.2.1 pc = .ok (.ifCond .le off, 3)) (ht : (pc : Int) + off = (tgt : Int)) (kt : x ≤ 0 → QW d M tgt ls st h P) (kf : ¬ x ≤ 0 → QW d M (pc + 3) ls st h P) : QW d M pc ls (.int x :: st) h P := by
  intro l s0 a0 A n0 p e R s m args below meth c H locs I S
  exact lv_if_le I.1 I.2.1 hd ht (fun z => kt z I S) (fun z => kf z I S)
theorem QW.icmp_le {x y : Int32} {off : Int} {tgt : Nat} (hd : decode M.2.1 pc = .ok (.if_icmp .le off, 3)) (ht : (pc : Int) + off = (tgt : Int)) (kt : x ≤ y → QW d M tgt ls st h P) (kf : ¬ x ≤ y → QW d M (pc + 3) ls st h P) : QW d M pc ls (.int y :: .int x :: st) h P := by
  intro l s0 a0 A n0 p e R s m args below meth c H locs I S
  exact lv_icmp_le I.1 I.2.1 hd ht (fun z => kt z I S) (fun z => kf z I S)
theorem QW.goto {off : Int} {tgt : Nat} (hd : decode M.2.1 pc = .ok (.goto off, 3)) (ht : (pc : Int) + off = (tgt : Int)) (kk : QW d M tgt ls st h P) : QW d M pc ls st h P := by
  intro l s0 a0 A n0 p e R s m args below meth c H locs I S
  exact lv_goto I.1 I.2.1 hd ht (kk I S)
end QS

theorem qat_kept {A : qA} {a : Nat} {c : qC} {H H' : Heap} (h : qat A a c H) (e : H'[a]? = H[a]?) : qat A a c H' := by
  obtain ⟨cell, h1, h2⟩ := h
  exact ⟨cell, e.trans h1, h2⟩
theorem qat_lt {A : qA} {a : Nat} {c : qC} {H : Heap} (h : qat A a c H) : a < H.size := by
  obtain ⟨cell, h1, -⟩ := h
  exact (Array.getElem?_eq_some_iff.mp h1).1
theorem qad_ne {A : qA} (hA : qad A) {i j : Nat} (hi : A.2.2 ≤ i) (hi2 : i ≤ 25000) (hj2 : j ≤ 25000) (h : j ≠ i) : A.1 j ≠ A.1 i := by
  rcases Nat.lt_or_gt_of_ne h with h1 | h1
  · exact Nat.ne_of_lt (hA.2 j i h1 hi hi2)
  · exact Nat.ne_of_gt (hA.2 i j h1 (Nat.le_trans hi (Nat.le_of_lt h1)) hj2)
theorem qad_le {A : qA} (hA : qad A) {i : Nat} (hi : A.2.2 ≤ i) (hi2 : i ≤ 25000) : A.1 A.2.2 ≤ A.1 i := by
  rcases Nat.eq_or_lt_of_le hi with h | h
  · rw [h]; exact Nat.le_refl _
  · exact Nat.le_of_lt (hA.2 _ i h hi hi2)
theorem q_cap {n : Nat} (h : n ≤ qCap) : n ≤ 25000 := Nat.le_trans h (by decide)
theorem qhr_put {A : qA} {h : qH} {H H' : Heap} {i : Nat} {c c' : qC} (hA : qad A) (hcap : h.length ≤ qCap) (hr : qhr A h H) (hi : h[i]? = some c) (hK : A.2.2 ≤ i) (hc : qat A (A.1 i) c' H') (hz : H'.size = H.size) (ho : ∀ q : Nat, q ≠ A.1 i → H'[q]? = H[q]?) : qhr A (h.set i c') H' := by
  have hl : i < h.length := (List.getElem?_eq_some_iff.mp hi).1
  refine ⟨by rw [List.length_set, hz]; exact hr.1, by rw [List.length_set]; exact hr.2.1, fun j x hj => ?_⟩
  by_cases hji : j = i
  · subst hji
    rw [List.getElem?_set_self hl] at hj
    cases hj
    exact ⟨hc, fun _ => hK⟩
  · rw [List.getElem?_set_ne (Ne.symm hji)] at hj
    obtain ⟨h1, h2⟩ := hr.2.2 j x hj
    have hjl : j < h.length := (List.getElem?_eq_some_iff.mp hj).1
    have hcp := q_cap hcap
    exact ⟨qat_kept h1 (ho _ (qad_ne hA hK (by omega) (by omega) hji)), h2⟩
theorem qhr_new {A : qA} {h : qH} {H H' : Heap} {c : qC} (hA : qad A) (hcap : h.length < qCap) (hr : qhr A h H) (hc : qat A (A.1 h.length) c H') (hz : H'.size = H.size + 1) (ho : ∀ q : Nat, q < H.size → H'[q]? = H[q]?) : qhr A (h ++ [c]) H' := by
  refine ⟨by rw [hz, hr.1, List.length_append, List.length_singleton, hA.1 _ hr.2.1 (Nat.lt_of_lt_of_le hcap (q_cap (Nat.le_refl _)))], by rw [List.length_append]; exact Nat.le_trans hr.2.1 (Nat.le_add_right _ _), fun j x hj => ?_⟩
  by_cases hl : j < h.length
  · rw [List.getElem?_append_left hl] at hj
    obtain ⟨h1, h2⟩ := hr.2.2 j x hj
    exact ⟨qat_kept h1 (ho _ (qat_lt h1)), h2⟩
  · rw [List.getElem?_append_right (by omega)] at hj
    have hz0 : j - h.length < 1 := (List.getElem?_eq_some_iff.mp hj).1
    have hj0 : j = h.length := by omega
    subst hj0
    rw [Nat.sub_self] at hj
    cases hj
    exact ⟨hc, fun _ => hr.2.1⟩
theorem qSt_put {A : qA} {s0 : State} {n0 : Nat} {h : qH} {H H' : Heap} {locs : List Loc} {i sl : Nat} {c c' : qC} (hA : qad A) (S : qSt A s0 n0 h H locs) (hi : h[i]? = some c) (hK : A.2.2 ≤ i) (hc : qat A (A.1 i) c' H') (hz : H'.size = H.size) (ho : ∀ q : Nat, q ≠ A.1 i → H'[q]? = H[q]?) : qSt A s0 n0 (h.set i c') H' (locs ++ [⟨A.1 i, sl⟩]) := by
  have hil : i ≤ 25000 := Nat.le_of_lt (Nat.lt_of_lt_of_le (List.getElem?_eq_some_iff.mp hi).1 (q_cap S.2.2.2.2))
  refine ⟨qhr_put hA S.2.2.2.2 S.1 hi hK hc hz ho, fun q hq => ?_, fun q hq => ?_, by rw [List.length_set]; exact S.2.2.2.1, by rw [List.length_set]; exact S.2.2.2.2⟩
  · have := qad_le hA hK hil
    rw [ho q (by omega)]
    exact S.2.1 q hq
  · rcases List.mem_append.mp hq with h1 | h1
    · exact S.2.2.1 q h1
    · rw [List.mem_singleton.mp h1]
      exact qad_le hA hK hil
theorem qSt_new {A : qA} {s0 : State} {n0 : Nat} {h : qH} {H H' : Heap} {locs : List Loc} {c : qC} (hA : qad A) (S : qSt A s0 n0 h H locs) (hl : h.length < qCap) (hc : qat A (A.1 h.length) c H') (hz : H'.size = H.size + 1) (ho : ∀ q : Nat, q < H.size → H'[q]? = H[q]?) : qSt A s0 n0 (h ++ [c]) H' locs := by
  refine ⟨qhr_new hA hl S.1 hc hz ho, fun q hq => ?_, S.2.2.1, by rw [List.length_append]; exact Nat.le_trans S.2.2.2.1 (Nat.le_add_right _ _), by rw [List.length_append, List.length_singleton]; exact hl⟩
  have h1 : H.size = A.1 h.length := S.1.1
  have h2 := qad_le hA S.1.2.1 (q_cap S.2.2.2.2)
  rw [ho q (by omega)]
  exact S.2.1 q hq
theorem qad_add {A : qA} (hA : qad A) (j : Nat) : A.2.2 + j ≤ 25000 → A.1 (A.2.2 + j) = A.1 A.2.2 + j := by
  induction j with
  | zero => intro _; rfl
  | succ j ih =>
    intro hj
    rw [← Nat.add_assoc, hA.1 _ (Nat.le_add_right _ _) (by omega), ih (by omega), Nat.add_assoc]
theorem qhr_own {A : qA} (hA : qad A) {h : qH} {H : Heap} (hcap : h.length ≤ qCap) (hr : qhr A h H) {q : Nat} {cell : Cell} (hq : A.1 A.2.2 ≤ q) (hc : H[q]? = some cell) : ∃ (i : Nat) (c : qC), A.2.2 ≤ i ∧ h[i]? = some c ∧ A.1 i = q := by
  have hlt : q < H.size := (Array.getElem?_eq_some_iff.mp hc).1
  have e1 : A.1 h.length = A.1 A.2.2 + (h.length - A.2.2) := by
    have := qad_add hA (h.length - A.2.2) (by rw [Nat.add_sub_cancel' hr.2.1]; exact q_cap hcap)
    rw [Nat.add_sub_cancel' hr.2.1] at this
    exact this
  have hi : A.2.2 + (q - A.1 A.2.2) < h.length := by
    have := hr.2.1
    have := hr.1
    omega
  refine ⟨A.2.2 + (q - A.1 A.2.2), h[A.2.2 + (q - A.1 A.2.2)], Nat.le_add_right _ _, List.getElem?_eq_getElem hi, ?_⟩
  rw [qad_add hA _ (Nat.le_of_lt (Nat.lt_of_lt_of_le hi (q_cap hcap)))]
  omega
theorem qhr_ns {A : qA} (hA : qad A) {h : qH} {H : Heap} (hcap : h.length ≤ qCap) (hr : qhr A h H) (q : Nat) (cell : Cell) (hq : A.1 A.2.2 ≤ q) (hc : H[q]? = some cell) : cell.vm.isStatics = false := by
  obtain ⟨i, c, -, hi, rfl⟩ := qhr_own hA hcap hr hq hc
  obtain ⟨⟨cell', h1, -, -, h4, -⟩, -⟩ := hr.2.2 i c hi
  cases hc.symm.trans h1
  exact h4

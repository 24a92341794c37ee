section QACC
variable {l : Launch} {s0 : State} {a0 : Array Value} {A : qA} {M : qM} {d n0 : Nat} {p : Program} {R : Room} {s : State} {m : MethodId} {meth : Method} {c : Code}
theorem qIn.warm (I : qIn l s0 a0 A M d n0 p R s m meth c) : s0.WarmedH s.vm := I.2.2.2.2.2.2.2.2.1
theorem qIn.own (I : qIn l s0 a0 A M d n0 p R s m meth c) : s.vm.findClass M.1.cls = some m.cls := I.2.2.2.2.2.2.1
theorem qIn.glob (I : qIn l s0 a0 A M d n0 p R s m meth c) : qGl l s0 a0 A := I.2.2.2.2.2.2.2.2.2.2.2.2.2.2.2.2.2
theorem qIn.ad (I : qIn l s0 a0 A M d n0 p R s m meth c) : qad A := I.glob.2.2.1
theorem qIn.word (I : qIn l s0 a0 A M d n0 p R s m meth c) {w : Cond} (hw : w ∈ lw_tbl) (hk : (w.onTables && w.keeps) = true ∨ ∃ ty, w = .arrayClass ty) {a' : Array Value} : w.before a' s = true := word_at I.warm hk (I.glob.1 w hw)
theorem qIn.cls (I : qIn l s0 a0 A M d n0 p R s m meth c) {ct : Nat} {q : vw_C} (h : classes[ct]? = some q) : u_Kn s q.1 q.2.1 q.2.2 (A.2.1.1 ct) (A.2.1.2 ct) := u_Kn_moved I.warm.alike (I.glob.2.2.2.2.1 ct q h)
theorem qIn.arr (I : qIn l s0 a0 A M d n0 p R s m meth c) {t : Nat} {ty : FieldType} (h : qar t = some ty) : ∃ (kA : Class) (comp : ClassId), s.vm.classes[A.2.1.1 t]? = some kA ∧ kA.kind = .array comp ty := by
  obtain ⟨kA, comp, h1, h2⟩ := I.glob.2.2.2.2.2.1 t ty h
  obtain ⟨k', hk', he⟩ := I.warm.alike.2.2 _ _ h1
  exact ⟨k', comp, hk', by rw [he]; exact h2⟩
theorem q_ra_name {U : State} {cA : ClassId} {ty : FieldType} (h : va_RA U cA ty) : U.vm.findClass ("[" ++ ty.toString) = some cA := by
  cases ty with
  | object C => exact h.choose_spec.choose_spec.2.2.2
  | _ => exact h
theorem qIn.ra (I : qIn l s0 a0 A M d n0 p R s m meth c) {t : Nat} {ty : FieldType} (h : qar t = some ty) (ht : t < 80) : va_RA s (A.2.1.1 t) ty := (I.glob.2.2.2.2.2.2.1 t ty h ht).moved I.warm.alike
theorem qIn.arrN (I : qIn l s0 a0 A M d n0 p R s m meth c) {t : Nat} {ty : FieldType} (h : qar t = some ty) (ht : t < 80) : s.vm.findClass ("[" ++ ty.toString) = some (A.2.1.1 t) := q_ra_name (I.ra h ht)
theorem q_nst {v : VmData} (h : v.isStatics = false) : ∀ k, v ≠ .statics k := fun k e => by rw [e] at h; cases h
theorem qIn.isArr (I : qIn l s0 a0 A M d n0 p R s m meth c) {t : Nat} {ty : FieldType} (h : qar t = some ty) {cell : Cell} (hc : cell.cls = A.2.1.1 t) (hs : cell.vm.isStatics = false) : s.isArrayOf cell ty := by
  obtain ⟨kA, comp, h1, h2⟩ := I.arr h
  exact ⟨q_nst hs, kA, by rw [hc]; exact h1, comp, h2⟩
end QACC
theorem qlay_ok {C : String} {T : u_T} {N : Nat} : ∀ w ∈ u_ws C T N, (w.onTables && w.keeps) = true := by
  intro w hw
  obtain ⟨k, -, rfl⟩ := List.mem_map.mp hw
  unfold u_lay
  split <;> rfl
theorem qat_aset {A : qA} {a t j : Nat} {l : List Value} {v : Value} {H' : Heap} {cell : Cell} (ht : 64 ≤ t) (c2 : cell.cls = A.2.1.1 t) (c3 : cell.vm ≠ .unknown) (c4 : cell.vm.isStatics = false) (c5 : qown t = true → cell.vm = .none) (c7 : cell.slots = (l.map (qv A.1)).toArray) (e : H'[a]? = some (cell.setSlot j (qv A.1 v))) : qat A a (t, l.set j v) H' := by
  refine ⟨_, e, c2, c3, c4, c5, fun h => absurd ht (Nat.not_le.mpr h), fun _ => ?_⟩
  show cell.slots.setIfInBounds j (qv A.1 v) = _
  rw [c7]
  simp [List.map_set]
theorem q_in {l : List Value} {x : Int32} {v : Value} {ad : Nat → Nat} {sl : Array Value} (h0 : ¬ x < 0) (hv : l[x.toNatClampNeg]? = some v) (hs : sl = (l.map (qv ad)).toArray) : ¬ (x < 0 ∨ sl.size ≤ x.toNatClampNeg) ∧ sl[x.toNatClampNeg]? = some (qv ad v) := by
  subst hs
  have hl := (List.getElem?_eq_some_iff.mp hv).1
  refine ⟨fun h => ?_, by simp [hv]⟩
  rcases h with h | h
  · exact h0 h
  · simp at h; omega
section QMEM
variable {d : Nat} {M : qM} {pc : Nat} {ls : List Slot} {st : List Value} {h : qH} {P : qE → Prop}
theorem QW.alen {a t : Nat} {ty : FieldType} {l : List Value} {v : Int32} (hd : decode M.2.1 pc = .ok (.arraylength, 1)) (ha : h[a]? = some (t, l)) (ht : qar t = some ty) (h64 : 64 ≤ t) (hv : Int32.ofNat l.length = v) (kk : QW d M (pc + 1) ls (.int v :: st) h P) : QW d M pc ls (.ref a :: st) h P := by
  intro l s0 a0 A n0 p e R s m args below meth c H locs I S
  obtain ⟨⟨cell, c1, c2, c3, c4, c5, -, c7⟩, -⟩ := S.1.2.2 a _ ha
  exact W.alen (n := v) I.1 I.2.1 c1 (I.isArr ht c2 c4) (by rw [c7 h64]; simpa using hv) rfl rfl hd (kk I S)
theorem QW.iald {a t : Nat} {l : List Value} {x : Int32} {v : Value} (hd : decode M.2.1 pc = .ok (.iaload, 1)) (ha : h[a]? = some (t, l)) (ht : qar t = some .int) (h64 : 64 ≤ t) (h0 : ¬ x < 0) (hv : l[x.toNatClampNeg]? = some v) (kk : QW d M (pc + 1) ls (v :: st) h P) : QW d M pc ls (.int x :: .ref a :: st) h P := by
  intro l s0 a0 A n0 p e R s m args below meth c H locs I S
  obtain ⟨⟨cell, c1, c2, c3, c4, c5, -, c7⟩, -⟩ := S.1.2.2 a _ ha
  obtain ⟨g1, g2⟩ := q_in h0 hv (c7 h64)
  exact W.iald I.1 I.2.1 c1 (I.isArr ht c2 c4) c3 g1 g2 rfl rfl hd (kk I S)
theorem QW.zald {a t : Nat} {l : List Value} {x : Int32} {v : Value} (hd : decode M.2.1 pc = .ok (.baload, 1)) (ha : h[a]? = some (t, l)) (ht : qar t = some .boolean) (h64 : 64 ≤ t) (h0 : ¬ x < 0) (hv : l[x.toNatClampNeg]? = some v) (kk : QW d M (pc + 1) ls (v :: st) h P) : QW d M pc ls (.int x :: .ref a :: st) h P := by
  intro l s0 a0 A n0 p e R s m args below meth c H locs I S
  obtain ⟨⟨cell, c1, c2, c3, c4, c5, -, c7⟩, -⟩ := S.1.2.2 a _ ha
  obtain ⟨g1, g2⟩ := q_in h0 hv (c7 h64)
  exact W.zald I.1 I.2.1 c1 (I.isArr ht c2 c4) c3 g1 g2 rfl rfl hd (kk I S)
theorem QW.bald {a t : Nat} {l : List Value} {x : Int32} {v : Value} (hd : decode M.2.1 pc = .ok (.baload, 1)) (ha : h[a]? = some (t, l)) (ht : qar t = some .byte) (h64 : 64 ≤ t) (h0 : ¬ x < 0) (hv : l[x.toNatClampNeg]? = some v) (kk : QW d M (pc + 1) ls (v :: st) h P) : QW d M pc ls (.int x :: .ref a :: st) h P := by
  intro l s0 a0 A n0 p e R s m args below meth c H locs I S
  obtain ⟨⟨cell, c1, c2, c3, c4, c5, -, c7⟩, -⟩ := S.1.2.2 a _ ha
  obtain ⟨g1, g2⟩ := q_in h0 hv (c7 h64)
  exact W.bald I.1 I.2.1 c1 (I.isArr ht c2 c4) c3 g1 g2 rfl rfl hd (kk I S)
theorem QW.cald {a t : Nat} {l : List Value} {x : Int32} {v : Value} (hd : decode M.2.1 pc = .ok (.caload, 1)) (ha : h[a]? = some (t, l)) (ht : qar t = some .char) (h64 : 64 ≤ t) (h0 : ¬ x < 0) (hv : l[x.toNatClampNeg]? = some v) (kk : QW d M (pc + 1) ls (v :: st) h P) : QW d M pc ls (.int x :: .ref a :: st) h P := by
  intro l s0 a0 A n0 p e R s m args below meth c H locs I S
  obtain ⟨⟨cell, c1, c2, c3, c4, c5, -, c7⟩, -⟩ := S.1.2.2 a _ ha
  obtain ⟨g1, g2⟩ := q_in h0 hv (c7 h64)
  exact W.cald I.1 I.2.1 c1 (I.isArr ht c2 c4) c3 g1 g2 rfl rfl hd (kk I S)
theorem QW.lald {a t : Nat} {l : List Value} {x : Int32} {v : Value} (hd : decode M.2.1 pc = .ok (.laload, 1)) (ha : h[a]? = some (t, l)) (ht : qar t = some .long) (h64 : 64 ≤ t) (h0 : ¬ x < 0) (hv : l[x.toNatClampNeg]? = some v) (kk : QW d M (pc + 1) ls (v :: st) h P) : QW d M pc ls (.int x :: .ref a :: st) h P := by
  intro l s0 a0 A n0 p e R s m args below meth c H locs I S
  obtain ⟨⟨cell, c1, c2, c3, c4, c5, -, c7⟩, -⟩ := S.1.2.2 a _ ha
  obtain ⟨g1, g2⟩ := q_in h0 hv (c7 h64)
  exact W.lald I.1 I.2.1 c1 (I.isArr ht c2 c4) c3 g1 g2 rfl rfl hd (kk I S)
theorem QW.aald {a t : Nat} {C : String} {l : List Value} {x : Int32} {v : Value} (hd : decode M.2.1 pc = .ok (.aaload, 1)) (ha : h[a]? = some (t, l)) (ht : qar t = some (.object C)) (h64 : 64 ≤ t) (h0 : ¬ x < 0) (hv : l[x.toNatClampNeg]? = some v) (kk : QW d M (pc + 1) ls (v :: st) h P) : QW d M pc ls (.int x :: .ref a :: st) h P := by
  intro l s0 a0 A n0 p e R s m args below meth c H locs I S
  obtain ⟨⟨cell, c1, c2, c3, c4, c5, -, c7⟩, -⟩ := S.1.2.2 a _ ha
  obtain ⟨g1, g2⟩ := q_in h0 hv (c7 h64)
  exact W.aald I.1 I.2.1 c1 (I.isArr ht c2 c4) rfl c3 g1 g2 rfl rfl hd (kk I S)
theorem QW.iast {a t : Nat} {l : List Value} {x : Int32} {y : Int32} {v : Value} (hd : decode M.2.1 pc = .ok (.iastore, 1)) (ha : h[a]? = some (t, l)) (ht : qar t = some .int) (h64 : 64 ≤ t) (ho : qown t = true) (h0 : ¬ x < 0) (hv : l[x.toNatClampNeg]? = some v) (kk : QW d M (pc + 1) ls st (h.set a (t, l.set x.toNatClampNeg (.int y))) P) : QW d M pc ls (.int y :: .int x :: .ref a :: st) h P := by
  intro l s0 a0 A n0 p e R s m args below meth c H locs I S
  obtain ⟨⟨cell, c1, c2, c3, c4, c5, -, c7⟩, hK⟩ := S.1.2.2 a _ ha
  obtain ⟨g1, g2⟩ := q_in h0 hv (c7 h64)
  refine W.iast I.1 I.2.1 c1 (I.isArr ht c2 c4) c3 g1 rfl rfl hd fun H' eh z oq => ?_
  have S' := qSt_put (sl := x.toNatClampNeg) I.ad S ha (hK ho) (qat_aset (v := .int y) h64 c2 c3 c4 c5 (c7 h64) eh) z oq
  have K := kk (e := e) (args := args) (below := below) I S'
  rw [List.length_set] at K
  exact K
theorem QW.zast {a t : Nat} {l : List Value} {x : Int32} {y : Int32} {v : Value} (hd : decode M.2.1 pc = .ok (.bastore, 1)) (ha : h[a]? = some (t, l)) (ht : qar t = some .boolean) (h64 : 64 ≤ t) (ho : qown t = true) (h0 : ¬ x < 0) (hv : l[x.toNatClampNeg]? = some v) (hn : narrow .boolean (.int y) = .int y) (kk : QW d M (pc + 1) ls st (h.set a (t, l.set x.toNatClampNeg (.int y))) P) : QW d M pc ls (.int y :: .int x :: .ref a :: st) h P := by
  intro l s0 a0 A n0 p e R s m args below meth c H locs I S
  obtain ⟨⟨cell, c1, c2, c3, c4, c5, -, c7⟩, hK⟩ := S.1.2.2 a _ ha
  obtain ⟨g1, g2⟩ := q_in h0 hv (c7 h64)
  refine W.zast I.1 I.2.1 c1 (I.isArr ht c2 c4) c3 g1 rfl rfl hd fun H' eh z oq => ?_
  rw [hn] at eh
  have S' := qSt_put (sl := x.toNatClampNeg) I.ad S ha (hK ho) (qat_aset (v := .int y) h64 c2 c3 c4 c5 (c7 h64) eh) z oq
  have K := kk (e := e) (args := args) (below := below) I S'
  rw [List.length_set] at K
  exact K
theorem QW.cast {a t : Nat} {l : List Value} {x : Int32} {y : Int32} {v : Value} (hd : decode M.2.1 pc = .ok (.castore, 1)) (ha : h[a]? = some (t, l)) (ht : qar t = some .char) (h64 : 64 ≤ t) (ho : qown t = true) (h0 : ¬ x < 0) (hv : l[x.toNatClampNeg]? = some v) (hn : narrow .char (.int y) = .int y) (kk : QW d M (pc + 1) ls st (h.set a (t, l.set x.toNatClampNeg (.int y))) P) : QW d M pc ls (.int y :: .int x :: .ref a :: st) h P := by
  intro l s0 a0 A n0 p e R s m args below meth c H locs I S
  obtain ⟨⟨cell, c1, c2, c3, c4, c5, -, c7⟩, hK⟩ := S.1.2.2 a _ ha
  obtain ⟨g1, g2⟩ := q_in h0 hv (c7 h64)
  refine W.cast I.1 I.2.1 c1 (I.isArr ht c2 c4) c3 g1 rfl rfl hd fun H' eh z oq => ?_
  rw [hn] at eh
  have S' := qSt_put (sl := x.toNatClampNeg) I.ad S ha (hK ho) (qat_aset (v := .int y) h64 c2 c3 c4 c5 (c7 h64) eh) z oq
  have K := kk (e := e) (args := args) (below := below) I S'
  rw [List.length_set] at K
  exact K
theorem QW.last {a t : Nat} {l : List Value} {x : Int32} {y : Int64} {v : Value} (hd : decode M.2.1 pc = .ok (.lastore, 1)) (ha : h[a]? = some (t, l)) (ht : qar t = some .long) (h64 : 64 ≤ t) (ho : qown t = true) (h0 : ¬ x < 0) (hv : l[x.toNatClampNeg]? = some v) (kk : QW d M (pc + 1) ls st (h.set a (t, l.set x.toNatClampNeg (.long y))) P) : QW d M pc ls (.long y :: .int x :: .ref a :: st) h P := by
  intro l s0 a0 A n0 p e R s m args below meth c H locs I S
  obtain ⟨⟨cell, c1, c2, c3, c4, c5, -, c7⟩, hK⟩ := S.1.2.2 a _ ha
  obtain ⟨g1, g2⟩ := q_in h0 hv (c7 h64)
  refine W.last I.1 I.2.1 c1 (I.isArr ht c2 c4) c3 g1 rfl rfl hd fun H' eh z oq => ?_
  have S' := qSt_put (sl := x.toNatClampNeg) I.ad S ha (hK ho) (qat_aset (v := .long y) h64 c2 c3 c4 c5 (c7 h64) eh) z oq
  have K := kk (e := e) (args := args) (below := below) I S'
  rw [List.length_set] at K
  exact K
end QMEM

theorem qat_fset {A : qA} {a ct k N : Nat} {fs : List Value} {v : Value} {H' : Heap} {cell : Cell} (h64 : ct < 64) (hap : ∀ x y, x < N → y < N → x ≠ y → A.2.1.2 ct x ≠ A.2.1.2 ct y) (hk : k < N) (hl : fs.length = N) (c2 : cell.cls = A.2.1.1 ct) (c3 : cell.vm ≠ .unknown) (c4 : cell.vm.isStatics = false) (c5 : qown ct = true → cell.vm = .none)
    (c6 : ∀ (k : Nat) (v : Value), fs[k]? = some v → cell.slots[A.2.1.2 ct k]? = some (qv A.1 v)) (e : H'[a]? = some (cell.setSlot (A.2.1.2 ct k) (qv A.1 v))) : qat A a (ct, fs.set k v) H' := by
  refine ⟨_, e, c2, c3, c4, c5, fun _ j w hw => ?_, fun h => absurd h64 (Nat.not_lt.mpr h)⟩
  have hkl : k < fs.length := by omega
  by_cases hj : j = k
  · subst hj
    rw [List.getElem?_set_self hkl] at hw
    cases hw
    exact Cell.slots_setSlot_self _ (k2_hasslot (c6 j _ (List.getElem?_eq_getElem hkl)))
  · rw [List.getElem?_set_ne (Ne.symm hj)] at hw
    have hjl := (List.getElem?_eq_some_iff.mp hw).1
    rw [slot_ne _ _ (hap k j hk (by omega) (Ne.symm hj))]
    exact c6 j w hw
section QOBJ
variable {d : Nat} {M : qM} {pc : Nat} {ls : List Slot} {st : List Value} {h : qH} {P : qE → Prop}
theorem qIn.lays {l : Launch} {s0 : State} {a0 : Array Value} {A : qA} {M : qM} {d n0 : Nat} {p : Program} {R : Room} {s : State} {m : MethodId} {meth : Method} {c : Code} (I : qIn l s0 a0 A M d n0 p R s m meth c) {C : String} {T : u_T} {N : Nat} {ty : Nat → FieldType} (h : qcok C T N ty) {args : Array Value} : ∀ w ∈ u_ws C T N, w.before args s = true :=
  fun w hw => I.word (h.2.2 w hw) (Or.inl (qlay_ok w hw))
theorem qIn.apart {l : Launch} {s0 : State} {a0 : Array Value} {A : qA} {M : qM} {d n0 : Nat} {p : Program} {R : Room} {s : State} {m : MethodId} {meth : Method} {c : Code} (I : qIn l s0 a0 A M d n0 p R s m meth c) {C : String} {T : u_T} {N ct : Nat} {ty : Nat → FieldType} (h : qcok C T N ty) (hc : classes[ct]? = some (C, T, N)) : ∀ x y, x < N → y < N → x ≠ y → A.2.1.2 ct x ≠ A.2.1.2 ct y := by
  intro x y hx hy hne
  obtain ⟨hS, -⟩ := I.cls hc
  obtain ⟨_, _, _, fa, hia, ea⟩ := hS x hx
  obtain ⟨_, _, _, fb, hib, eb⟩ := hS y hy
  rw [← ea, ← eb]
  refine u_apart (u_lays (I.lays h (args := #[])) (fun w hw => hw) hx) (u_lays (I.lays h (args := #[])) (fun w hw => hw) hy) hia hib ?_
  rw [(State.fieldFound?_type hia (h.1 x hx)).1, (State.fieldFound?_type hib (h.1 y hy)).1]
  exact h.2.1 x hx y hy hne
theorem qIn.nest {l : Launch} {s0 : State} {a0 : Array Value} {A : qA} {M : qM} {d n0 : Nat} {p : Program} {R : Room} {s : State} {m : MethodId} {meth : Method} {c : Code} (I : qIn l s0 a0 A M d n0 p R s m meth c) {a : String} {i : Nat} {b n ds host : String} (h : Cond.fieldLinkNest a i b n ds host ∈ lw_tbl) {args : Array Value} : (Cond.fieldLinkNest a i b n ds host).before args s = true :=
  va_Nw.use rfl (va_Nw.warmF I.warm (va_Nw.of rfl (I.glob.1 _ h)))
theorem QW.getf {idx ct k N a : Nat} {t : FieldType} {fin : Bool} {fs : List Value} {v : Value} (hd : decode M.2.1 pc = .ok (.getfield idx, 3)) (hf : qfl M.1.cls idx ct k N t fin) (ha : h[a]? = some (ct, fs)) (hv : fs[k]? = some v) (kk : QW d M (pc + 3) ls (v :: st) h P) : QW d M pc ls (.ref a :: st) h P := by
  intro l s0 a0 A n0 p e R s m args below meth c H locs I S
  obtain ⟨C, T, ty, h1, h2, h2', h3, h4, h5, -, -, h6⟩ := hf
  obtain ⟨⟨cell, c1, c2, c3, c4, c5, c6, -⟩, -⟩ := S.1.2.2 a _ ha
  obtain ⟨hS, hfc, kC, hkC, hkind⟩ := I.cls h1
  obtain ⟨cf, kf, fi, f, hi, hsl⟩ := hS k h3
  have hst := (u_facts hfc hkC (u_lays (I.lays h5 (args := args)) (fun w hw => hw) h3) hi).1
  have hi : s.fieldFound? C (T k).2.1 (T k).2.2.1 = some (cf, kf, fi, f) := by rw [← h4]; exact hi
  rcases h6 with h6 | ⟨host, h6⟩
  · exact W.getf I.1 I.2.1 I.own (I.word h6 (Or.inl rfl)) hi hst c1 c3 (by rw [hsl]; exact c6 h2' k v hv) rfl rfl hd (kk I S)
  · exact va_Wgetf I.1 I.2.1 I.own (I.nest h6) hi hst c1 c3 (by rw [hsl]; exact c6 h2' k v hv) rfl rfl hd (kk I S)
theorem QW.putf {idx ct k N a : Nat} {t : FieldType} {fs : List Value} {v : Value} (hd : decode M.2.1 pc = .ok (.putfield idx, 3)) (hf : qfl M.1.cls idx ct k N t false) (ha : h[a]? = some (ct, fs)) (hl : fs.length = N) (hn : ∀ ad, narrow t (qv ad v) = qv ad v) (hfit : ∀ ad, fits t (qv ad v) = true) (kk : QW d M (pc + 3) ls st (h.set a (ct, fs.set k v)) P) : QW d M pc ls (v :: .ref a :: st) h P := by
  intro l s0 a0 A n0 p e R s m args below meth c H locs I S
  obtain ⟨C, T, ty, h1, h2, h2', h3, h4, h5, h5', h5'', h6⟩ := hf
  obtain ⟨⟨cell, c1, c2, c3, c4, c5, c6, -⟩, hK⟩ := S.1.2.2 a _ ha
  obtain ⟨hS, hfc, kC, hkC, hkind⟩ := I.cls h1
  obtain ⟨cf, kf, fi, f, hi, hsl⟩ := hS k h3
  have hst := (u_facts hfc hkC (u_lays (I.lays h5 (args := args)) (fun w hw => hw) h3) hi).1
  have hlay := I.lays h5 (args := args) _ (u_in_lay h3)
  unfold u_lay at hlay
  rw [if_neg (by rw [h5'']; decide)] at hlay
  have h7 := u_store hfc hkC hkind hlay hi (h5' ▸ h5.1 k h3) (hn A.1) (hfit A.1)
  have hi : s.fieldFound? C (T k).2.1 (T k).2.2.1 = some (cf, kf, fi, f) := by rw [← h4]; exact hi
  have hlt : f.slot < cell.slots.size := by rw [hsl]; exact k2_hasslot (c6 h2' k _ (List.getElem?_eq_getElem (show k < fs.length by omega)))
  have kk' : ∀ H' : Heap, H'[A.1 a]? = some (cell.setSlot f.slot (qv A.1 v)) → H'.size = H.size → (∀ q, q ≠ A.1 a → H'[q]? = H[q]?) → W p l e R s m args below meth c H' (locs ++ [⟨A.1 a, f.slot⟩]) (h.length - n0) (256 * (h.length - n0)) (qQ A s0 n0 s below P) (F0 m (pc + 3) (qls A.1 ls) (qvs A.1 st)) := by
    intro H' eh z oq
    rw [hsl] at eh
    have K := kk (e := e) (args := args) (below := below) I (qSt_put (sl := f.slot) I.ad S ha (hK h2) (qat_fset h2' (I.apart h5 h1) h3 hl c2 c3 c4 c5 (c6 h2') eh) z oq)
    rw [List.length_set] at K
    exact K
  rcases h6 with h6 | ⟨host, h6⟩
  · exact W.putK I.1 I.2.1 (f := f) ⟨I.own, I.word h6 (Or.inl rfl), ⟨_, _, _, hi⟩, hst⟩ (by rw [c2]; exact h7) c1 (c5 h2) hlt rfl rfl hd kk'
  · exact va_WputK I.1 I.2.1 I.own (I.nest h6) hi hst (by rw [c2]; exact h7) c1 (c5 h2) hlt rfl rfl hd kk'
theorem QW.putF {idx ct k N a : Nat} {t : FieldType} {fs : List Value} {v : Value} (hd : decode M.2.1 pc = .ok (.putfield idx, 3)) (hf : qfF M.1.cls idx ct k N t) (hin : M.1.name = "<init>") (ha : h[a]? = some (ct, fs)) (hl : fs.length = N) (hn : ∀ ad, narrow t (qv ad v) = qv ad v) (hfit : ∀ ad, fits t (qv ad v) = true) (kk : QW d M (pc + 3) ls st (h.set a (ct, fs.set k v)) P) : QW d M pc ls (v :: .ref a :: st) h P := by
  intro l s0 a0 A n0 p e R s m args below meth c H locs I S
  obtain ⟨C, T, ty, h1, h2, h2', h3, h4, hC, h5, h5', h5'', h6⟩ := hf
  obtain ⟨⟨cell, c1, c2, c3, c4, c5, c6, -⟩, hK⟩ := S.1.2.2 a _ ha
  obtain ⟨hS, hfc, kC, hkC, hkind⟩ := I.cls h1
  obtain ⟨cf, kf, fi, f, hi, hsl⟩ := hS k h3
  have hst := (u_facts hfc hkC (u_lays (I.lays h5 (args := args)) (fun w hw => hw) h3) hi).1
  have hlay := I.lays h5 (args := args) _ (u_in_lay h3)
  unfold u_lay at hlay
  rw [if_pos h5''] at hlay
  have hcf : m.cls = cf := by
    obtain ⟨_, _, c', _, _, _, -, -, hf', -, -, -, hown2, -⟩ := Cond.laysFinal_spec hlay
    have e1 : c' = cf := by have := hi.symm.trans hf'; simp at this; exact this.1.symm
    rw [h4, hC] at hown2
    rw [← e1]; exact Option.some.inj (I.own.symm.trans hown2)
  have h7 := u_fits hfc hkC hkind (Or.inr hlay) hi (h5' ▸ h5.1 k h3) (hn A.1) (hfit A.1)
  have hi : s.fieldFound? C (T k).2.1 (T k).2.2.1 = some (cf, kf, fi, f) := by rw [← h4]; exact hi
  have hlt : f.slot < cell.slots.size := by rw [hsl]; exact k2_hasslot (c6 h2' k _ (List.getElem?_eq_getElem (show k < fs.length by omega)))
  refine W.putFinK I.1 I.2.1 I.own (I.word h6 (Or.inl rfl)) hi hst hcf (I.2.2.2.2.2.1.trans hin) (by rw [c2]; exact h7) c1 (c5 h2) hlt rfl rfl hd fun H' eh z oq => ?_
  rw [hsl] at eh
  have K := kk (e := e) (args := args) (below := below) I (qSt_put (sl := f.slot) I.ad S ha (hK h2) (qat_fset h2' (I.apart h5 h1) h3 hl c2 c3 c4 c5 (c6 h2') eh) z oq)
  rw [List.length_set] at K
  exact K
theorem QW.new {idx ct : Nat} {fs : List Value} (hd : decode M.2.1 pc = .ok (.new idx, 3)) (hf : qnw M.1.cls idx ct fs) (hc : h.length < qCap) (kk : QW d M (pc + 3) ls (.ref h.length :: st) (h ++ [(ct, fs)]) P) : QW d M pc ls st h P := by
  intro l s0 a0 A n0 p e R s m args below meth c H locs I S
  obtain ⟨C, T, ty, h1, h2, h3, h4, h5, h5', h6, h7, h8⟩ := hf
  have hKn := I.cls h1
  have hR1 : qCap ≤ R.cells + n0 := I.2.2.2.2.2.2.2.2.2.2.2.2.2.2.2.1
  have hR2 : 256 * qCap ≤ R.slots + 256 * n0 := I.2.2.2.2.2.2.2.2.2.2.2.2.2.2.2.2.1
  have hn0 : n0 ≤ h.length := S.2.2.2.1
  refine W.newcK I.1 I.2.1 I.own (I.word h6 (Or.inl rfl)) (I.word h7 (Or.inl rfl)) (I.word h8 (Or.inl rfl)) rfl hd (by omega) (by omega) hKn.2.1 rfl fun H' kC hkC eh z oq => ?_
  obtain ⟨cell, b1, b2, b3, b4⟩ := u_born ty (I.lays h4 (args := args)) (fun w hw => hw) hKn hkC eh h4.1
  have hsz : H.size = A.1 h.length := S.1.1
  have hat : qat A (A.1 h.length) (ct, fs) H' := by
    rw [← hsz]
    refine ⟨cell, b1, b2, by rw [b3]; exact fun h => (by cases h), by rw [b3]; rfl, fun _ => b3, fun _ k v hv => ?_, fun h => absurd h2 (Nat.not_lt.mpr h)⟩
    have hk := (List.getElem?_eq_some_iff.mp hv).1
    rw [b4 k hk, h5' v (List.mem_of_getElem? hv) A.1]
    exact (h5 k hk).symm.trans hv
  have K := kk (e := e) (args := args) (below := below) I (qSt_new I.ad S hc hat z oq)
  rw [List.length_append, List.length_singleton] at K
  refine W.widen (k := h.length + 1 - n0) (n := 256 * (h.length + 1 - n0)) (by omega) (by omega) ?_
  rw [hsz]
  exact K
end QOBJ

theorem q_arrV {ad : Nat → Nat} (cA : ClassId) (n : Nat) (v : Value) (hv : qv ad v = v) : (arrV cA n (fun _ => v)).slots = ((List.replicate n v).map (qv ad)).toArray := by
  rw [← arrV_new]
  simp [hv]
section QARR
variable {d : Nat} {M : qM} {pc : Nat} {ls : List Slot} {st : List Value} {h : qH} {P : qE → Prop}
theorem QW.newa {at0 : ArrayType} {t N : Nat} {n : Int32} (hd : decode M.2.1 pc = .ok (.newarray at0, 2)) (ht : qar t = some (newarray.typeOf at0)) (h64 : 64 ≤ t) (h80 : t < 80) (hw : Cond.arrayClass (newarray.typeOf at0) ∈ lw_tbl) (hn : ¬ n < 0) (hN : n.toNatClampNeg = N) (hN2 : N ≤ 256) (hc : h.length < qCap)
    (kk : QW d M (pc + 2) ls (.ref h.length :: st) (h ++ [(t, List.replicate N (defaultValue (newarray.typeOf at0)))]) P) : QW d M pc ls (.int n :: st) h P := by
  intro l s0 a0 A n0 p e R s m args below meth c H locs I S
  have hR1 : qCap ≤ R.cells + n0 := I.2.2.2.2.2.2.2.2.2.2.2.2.2.2.2.1
  have hR2 : 256 * qCap ≤ R.slots + 256 * n0 := I.2.2.2.2.2.2.2.2.2.2.2.2.2.2.2.2.1
  have hn0 : n0 ≤ h.length := S.2.2.2.1
  have hcb : componentBytes (newarray.typeOf at0) ≤ 8 := by cases at0 <;> decide
  have hb : N * componentBytes (newarray.typeOf at0) ≤ 536870912 := Nat.le_trans (Nat.mul_le_mul hN2 hcb) (by decide)
  refine va_newaK I.1 I.2.1 (I.word hw (Or.inr ⟨_, rfl⟩)) rfl hd rfl hn hN hb (by omega) (by omega) rfl fun H' cA eh z oq hAr hNm => ?_
  have hcA : cA = A.2.1.1 t := Option.some.inj (hNm.symm.trans (I.arrN ht h80))
  have hsz : H.size = A.1 h.length := S.1.1
  have hdv : ∀ ad, qv ad (defaultValue (newarray.typeOf at0)) = defaultValue (newarray.typeOf at0) := fun ad => by cases at0 <;> rfl
  have hat : qat A (A.1 h.length) (t, List.replicate N (defaultValue (newarray.typeOf at0))) H' := by
    rw [← hsz]
    exact ⟨_, eh, hcA, fun h => (by cases h), rfl, fun _ => rfl, fun h => absurd h64 (Nat.not_le.mpr h), fun _ => q_arrV cA N _ (hdv A.1)⟩
  have K := kk (e := e) (args := args) (below := below) I (qSt_new I.ad S hc hat z oq)
  rw [List.length_append, List.length_singleton] at K
  refine W.widen (k := h.length + 1 - n0) (n := 256 * (h.length + 1 - n0)) (by omega) (by omega) ?_
  rw [hsz]
  exact K
theorem QW.newq {idx t N : Nat} {C : String} {n : Int32} (hd : decode M.2.1 pc = .ok (.anewarray idx, 3)) (ht : qar t = some (.object C)) (h64 : 64 ≤ t) (h80 : t < 80) (hw : Cond.classLink M.1.cls idx C ∈ lw_tbl) (hw2 : Cond.arrayOver (.object C) ∈ lw_tbl) (hn : ¬ n < 0) (hN : n.toNatClampNeg = N) (hN2 : N ≤ 256) (hc : h.length < qCap)
    (kk : QW d M (pc + 3) ls (.ref h.length :: st) (h ++ [(t, List.replicate N .null)]) P) : QW d M pc ls (.int n :: st) h P := by
  intro l s0 a0 A n0 p e R s m args below meth c H locs I S
  have hR1 : qCap ≤ R.cells + n0 := I.2.2.2.2.2.2.2.2.2.2.2.2.2.2.2.1
  have hR2 : 256 * qCap ≤ R.slots + 256 * n0 := I.2.2.2.2.2.2.2.2.2.2.2.2.2.2.2.2.1
  have hn0 : n0 ≤ h.length := S.2.2.2.1
  subst hN
  have hover : (Cond.arrayOver (.object C)).before args s = true := va_AO.use (va_AO.moved I.warm.alike (va_AO.of (I.glob.1 _ hw2)))
  refine W.anew I.1 I.2.1 I.own (I.word hw (Or.inl rfl)) hover rfl hd rfl hn (by omega) (by omega) (by omega) fun cA kA comp f1 f2 f3 f4 => ?_
  generalize hH1 : H.push ({ cls := cA, slots := Array.replicate n.toNatClampNeg .null, vm := .none } : Cell) = H1
  have z1 : H1.size = H.size + 1 := by rw [← hH1, Array.size_push]
  have e1 : H1[H.size]? = some (arrV cA n.toNatClampNeg (fun _ => .null)) := by rw [← hH1, Array.getElem?_push_size, ← arrV_new]
  have o1 : ∀ q : Nat, q < H.size → H1[q]? = H[q]? := fun q hq => by rw [← hH1, Array.getElem?_push, if_neg (Nat.ne_of_lt hq)]
  have hcA : cA = A.2.1.1 t := Option.some.inj (f1.symm.trans (I.arrN ht h80))
  have hsz : H.size = A.1 h.length := S.1.1
  have hat : qat A (A.1 h.length) (t, List.replicate n.toNatClampNeg .null) H1 := by
    rw [← hsz]
    exact ⟨_, e1, hcA, fun h => (by cases h), rfl, fun _ => rfl, fun h => absurd h64 (Nat.not_le.mpr h), fun _ => q_arrV cA _ _ rfl⟩
  have K := kk (e := e) (args := args) (below := below) I (qSt_new I.ad S hc hat z1 o1)
  rw [List.length_append, List.length_singleton] at K
  refine W.widen (k := h.length + 1 - n0) (n := 256 * (h.length + 1 - n0)) (by omega) (by omega) ?_
  rw [hsz]
  exact K
theorem QW.aast {a t b ct : Nat} {q : vw_C} {l fs : List Value} {x : Int32} {v : Value} (hd : decode M.2.1 pc = .ok (.aastore, 1)) (ha : h[a]? = some (t, l)) (ht : qar t = some (.object q.1)) (h64 : 64 ≤ t) (h80 : t < 80) (ho : qown t = true) (hb : h[b]? = some (ct, fs)) (hq : classes[ct]? = some q) (h0 : ¬ x < 0) (hv : l[x.toNatClampNeg]? = some v)
    (kk : QW d M (pc + 1) ls st (h.set a (t, l.set x.toNatClampNeg (.ref b))) P) : QW d M pc ls (.ref b :: .int x :: .ref a :: st) h P := by
  intro l s0 a0 A n0 p e R s m args below meth c H locs I S
  obtain ⟨⟨cell, c1, c2, c3, c4, c5, -, c7⟩, hK⟩ := S.1.2.2 a _ ha
  obtain ⟨⟨cellB, d1, d2, d3, d4, d5, -, -⟩, -⟩ := S.1.2.2 b _ hb
  obtain ⟨g1, g2⟩ := q_in h0 hv (c7 h64)
  obtain ⟨-, hat⟩ := I.cls hq
  obtain ⟨kA, comp, k1, k2, k3, -⟩ := I.ra ht h80
  have hcomp : comp = A.2.1.1 ct := Option.some.inj (k3.symm.trans hat.1)
  subst hcomp
  have hat' := hat
  obtain ⟨-, kC, hkC, -⟩ := hat'
  refine W.aast I.1 I.2.1 c1 (q_nst c4) c3 (by rw [c2]; exact k1) k2 rfl hkC ⟨h0, Nat.not_le.mp fun q => g1 (Or.inr q)⟩ d1 (q_nst d4) (by rw [d2]; exact hkC) (by rw [d2]; exact va_assign hat) rfl rfl hd fun H' eh z oq => ?_
  have K := kk (e := e) (args := args) (below := below) I (qSt_put (sl := x.toNatClampNeg) I.ad S ha (hK ho) (qat_aset (v := .ref b) h64 c2 c3 c4 c5 (c7 h64) eh) z oq)
  rw [List.length_set] at K
  exact K
end QARR

section QRET
variable {d : Nat} {M : qM} {pc : Nat} {ls : List Slot} {h : qH} {P : qE → Prop}
theorem QW.iret {x : Int32} {ty : FieldType} (hd : decode M.2.1 pc = .ok (.ireturn, 1)) (hr : M.2.2.2.1 = some ty) (hn : narrow ty (.int x) = .int x) (hp : P (.inl (some (.int x)), h)) : QW d M pc ls [.int x] h P := by
  intro l s0 a0 A n0 p e R s m args below meth c H locs I S T hT X
  obtain ⟨i1, i2, i3, i4, i5, -⟩ := I
  have i4 : meth.sig.returnType = some ty := i4.trans hr
  obtain ⟨fs, hret, hrun, hended, hW, hframe⟩ := X.leave (v := some (.int x)) (hlocks := i5) (fun h => by rw [i4] at h; cases h)
  have hmeth' : T.vm.method? m = some meth := X.method'
  refine ⟨T.setFrames fs, ?_, (.inl (some (.int x)), h), hp, hrun, hended, hW, locs, hframe, by show qSt A s0 n0 h T.heap locs; rw [hT]; exact S⟩
  show Steps p.tables e below (T.setTop (F0 m pc (qls A.1 ls) [.int x])) _
  jvm_step X.here [X.here.top, i1, i2, hd, hmeth', i4, hn]
  (try refine ⟨rfl, ?_⟩); (try refine ⟨rfl, ?_⟩)
  first | (intro acts; rw [hret _ acts rfl rfl rfl]) | rw [hret _ _ rfl rfl rfl]
  exact Steps.refl _
theorem QW.vret (hd : decode M.2.1 pc = .ok (.return_, 1)) (hr : M.2.2.2.1 = none) (hp : P (.inl none, h)) : QW d M pc ls [] h P := by
  intro l s0 a0 A n0 p e R s m args below meth c H locs I S T hT X
  obtain ⟨i1, i2, i3, i4, i5, -⟩ := I
  have i4 : meth.sig.returnType = none := i4.trans hr
  obtain ⟨fs, hret, hrun, hended, hW, hframe⟩ := X.leave (v := none) (hlocks := i5) (fun _ => rfl)
  have hmeth' : T.vm.method? m = some meth := X.method'
  refine ⟨T.setFrames fs, ?_, (.inl none, h), hp, hrun, hended, hW, locs, hframe, by show qSt A s0 n0 h T.heap locs; rw [hT]; exact S⟩
  show Steps p.tables e below (T.setTop (F0 m pc (qls A.1 ls) [])) _
  jvm_step X.here [X.here.top, i1, i2, hd, hmeth', i4]
  (try refine ⟨rfl, ?_⟩); (try refine ⟨rfl, ?_⟩)
  first | (intro acts; rw [hret _ acts rfl rfl rfl]) | rw [hret _ _ rfl rfl rfl]
  exact Steps.refl _
theorem QW.aret {a : Nat} {n : String} (hd : decode M.2.1 pc = .ok (.areturn, 1)) (hr : M.2.2.2.1 = some (.object n)) (hp : P (.inl (some (.ref a)), h)) : QW d M pc ls [.ref a] h P := by
  intro l s0 a0 A n0 p e R s m args below meth c H locs I S T hT X
  obtain ⟨i1, i2, i3, i4, i5, -⟩ := I
  have i4 : meth.sig.returnType = some (.object n) := i4.trans hr
  obtain ⟨fs, hret, hrun, hended, hW, hframe⟩ := X.leave (v := some (.ref (A.1 a))) (hlocks := i5) (fun h => by rw [i4] at h; cases h)
  have hmeth' : T.vm.method? m = some meth := X.method'
  refine ⟨T.setFrames fs, ?_, (.inl (some (.ref a)), h), hp, hrun, hended, hW, locs, hframe, by show qSt A s0 n0 h T.heap locs; rw [hT]; exact S⟩
  show Steps p.tables e below (T.setTop (F0 m pc (qls A.1 ls) [.ref (A.1 a)])) _
  jvm_step X.here [X.here.top, i1, i2, hd, hmeth', i4]
  (try refine ⟨rfl, ?_⟩); (try refine ⟨rfl, ?_⟩)
  first | (intro acts; rw [hret _ acts rfl rfl rfl]) | rw [hret _ _ rfl rfl rfl]
  exact Steps.refl _
end QRET

def qb (b : Bool) : Int32 := match b with
  | true => 1
  | false => 0
theorem qb_n (b : Bool) : narrow .boolean (.int (qb b)) = .int (qb b) := by cases b <;> rfl
theorem q_apl {h x : qH} {a : Nat} {c : qC} (ha : h[a]? = some c) : (h ++ x)[a]? = some c := by
  rw [List.getElem?_append_left (List.getElem?_eq_some_iff.mp ha).1]
  exact ha
theorem q_apr (h x : qH) (k : Nat) : (h ++ x)[h.length + k]? = x[k]? := by
  rw [List.getElem?_append_right (Nat.le_add_right _ _), Nat.add_sub_cancel_left]
theorem q_sap {h x : qH} {a : Nat} {c c' : qC} (ha : h[a]? = some c) : (h ++ x).set a c' = h.set a c' ++ x := by
  rw [List.set_append_left _ _ (List.getElem?_eq_some_iff.mp ha).1]
theorem q_gs {h : qH} {a : Nat} {c c' : qC} (ha : h[a]? = some c) : (h.set a c')[a]? = some c' := by
  rw [List.getElem?_set_self (List.getElem?_eq_some_iff.mp ha).1]
theorem q_gn {h : qH} {a b : Nat} {c c' : qC} (hb : h[b]? = some c) (hne : a ≠ b) : (h.set a c')[b]? = some c := by
  rw [List.getElem?_set_ne hne]
  exact hb
theorem q_ss (h : qH) (a : Nat) (c c' : qC) : (h.set a c).set a c' = h.set a c' := by simp
theorem QW.hq {d : Nat} {M : qM} {pc : Nat} {ls : List Slot} {st : List Value} {h h' : qH} {P : qE → Prop} (e : h = h') (k : QW d M pc ls st h' P) : QW d M pc ls st h P := e ▸ k
theorem QW.sq {d : Nat} {M : qM} {pc : Nat} {ls : List Slot} {st st' : List Value} {h : qH} {P : qE → Prop} (e : st = st') (k : QW d M pc ls st' h P) : QW d M pc ls st h P := e ▸ k
theorem dTab_hasColumn_0 : decode mTab_hasColumn.2.1 0 = .ok (.iload_n 1, 1) := by decide +kernel
theorem dTab_hasColumn_1 : decode mTab_hasColumn.2.1 1 = .ok (.ifCond .lt 15, 3) := by decide +kernel
theorem dTab_hasColumn_4 : decode mTab_hasColumn.2.1 4 = .ok (.iload_n 1, 1) := by decide +kernel
theorem dTab_hasColumn_5 : decode mTab_hasColumn.2.1 5 = .ok (.aload_n 0, 1) := by decide +kernel
theorem dTab_hasColumn_6 : decode mTab_hasColumn.2.1 6 = .ok (.getfield 19, 3) := by decide +kernel
theorem dTab_hasColumn_9 : decode mTab_hasColumn.2.1 9 = .ok (.if_icmp .ge 7, 3) := by decide +kernel
theorem dTab_hasColumn_12 : decode mTab_hasColumn.2.1 12 = .ok (.iconst 1, 1) := by decide +kernel
theorem dTab_hasColumn_13 : decode mTab_hasColumn.2.1 13 = .ok (.goto 4, 3) := by decide +kernel
theorem dTab_hasColumn_16 : decode mTab_hasColumn.2.1 16 = .ok (.iconst 0, 1) := by decide +kernel
theorem dTab_hasColumn_17 : decode mTab_hasColumn.2.1 17 = .ok (.ireturn, 1) := by decide +kernel
theorem cTab_hasColumn {d t : Nat} {h : qH} {P : qE → Prop} {c r col : Int32} {v3 v4 : Value} (ht : h[t]? = some (9, [.int c, .int r, v3, v4])) (hp : P (.inl (some (.int (qb (decide (0 ≤ col) && decide (col < c))))), h)) : QW d mTab_hasColumn 0 (qen 2 [.ref t, .int col]) [] h P := by
  show QW d mTab_hasColumn 0 [.val (.ref t), .val (.int col)] [] h P
  have tail : ∀ b : Bool, b = (decide (0 ≤ col) && decide (col < c)) → QW d mTab_hasColumn 17 [.val (.ref t), .val (.int col)] [.int (qb b)] h P := fun b hb => by
    refine QW.iret dTab_hasColumn_17 rfl (qb_n _) (by rw [hb]; exact hp)
  refine QW.iload_n dTab_hasColumn_0 rfl rfl ?_
  refine QW.if_lt (tgt := 16) dTab_hasColumn_1 (by decide) (fun z => ?_) (fun z => ?_)
  · refine QW.iconst (v := 0) dTab_hasColumn_16 (by decide) (tail false ?_)
    have : ¬ 0 ≤ col := k2_nle z
    simp [this]
  · refine QW.iload_n dTab_hasColumn_4 rfl rfl ?_
    refine QW.aload_n dTab_hasColumn_5 rfl rfl ?_
    refine QW.getf dTab_hasColumn_6 fTab_19 (by assumption) rfl ?_
    refine QW.icmp_ge (tgt := 16) dTab_hasColumn_9 (by decide) (fun z2 => ?_) (fun z2 => ?_)
    · refine QW.iconst (v := 0) dTab_hasColumn_16 (by decide) (tail false ?_)
      have : ¬ col < c := k2_nlt z2
      simp [this]
    · refine QW.iconst (v := 1) dTab_hasColumn_12 (by decide) ?_
      refine QW.goto (tgt := 17) dTab_hasColumn_13 (by decide) (tail true ?_)
      have h1 : 0 ≤ col := k2_le z
      have h2 : col < c := k2_lt z2
      simp [h1, h2]
theorem dTab_init_0 : decode mTab_init.2.1 0 = .ok (.aload_n 0, 1) := by decide +kernel
theorem dTab_init_1 : decode mTab_init.2.1 1 = .ok (.invokespecial 3, 3) := by decide +kernel
theorem dTab_init_4 : decode mTab_init.2.1 4 = .ok (.aload_n 0, 1) := by decide +kernel
theorem dTab_init_5 : decode mTab_init.2.1 5 = .ok (.iconst 3, 1) := by decide +kernel
theorem dTab_init_6 : decode mTab_init.2.1 6 = .ok (.newarray .boolean, 2) := by decide +kernel
theorem dTab_init_8 : decode mTab_init.2.1 8 = .ok (.putfield 9, 3) := by decide +kernel
theorem dTab_init_11 : decode mTab_init.2.1 11 = .ok (.aload_n 0, 1) := by decide +kernel
theorem dTab_init_12 : decode mTab_init.2.1 12 = .ok (.bipush 24, 2) := by decide +kernel
theorem dTab_init_14 : decode mTab_init.2.1 14 = .ok (.newarray .int, 2) := by decide +kernel
theorem dTab_init_16 : decode mTab_init.2.1 16 = .ok (.putfield 15, 3) := by decide +kernel
theorem dTab_init_19 : decode mTab_init.2.1 19 = .ok (.return_, 1) := by decide +kernel
theorem cTab_init {d a : Nat} {h : qH} {P : qE → Prop} (ha : h[a]? = some (9, [.int 0, .int 0, .null, .null])) (hc : h.length + 2 ≤ qCap) (hp : P (.inl none, h.set a (9, [.int 0, .int 0, .ref h.length, .ref (h.length + 1)]) ++ [(65, List.replicate 3 (.int 0)), (64, List.replicate 24 (.int 0))])) : QW d mTab_init 0 (qen 1 [.ref a]) [] h P := by
  show QW d mTab_init 0 [.val (.ref a)] [] h P
  refine QW.aload_n dTab_init_0 rfl rfl ?_
  refine QW.objInit dTab_init_1 oTab_3 q_oi q_oc rfl (by decide) ?_
  refine QW.aload_n dTab_init_4 rfl rfl ?_
  refine QW.iconst (v := 3) dTab_init_5 (by decide) ?_
  refine QW.newa (t := 65) dTab_init_6 rfl (by decide) (by decide) q_ac_boolean (by decide) (N := 3) (by decide) (by decide) (by omega) ?_
  refine QW.putF dTab_init_8 gTab_9 rfl (q_apl ha) rfl (fun _ => rfl) (fun _ => rfl) ?_
  refine QW.hq (q_sap ha) ?_
  refine QW.aload_n dTab_init_11 rfl rfl ?_
  refine QW.bipush (v := 24) dTab_init_12 (by decide) ?_
  refine QW.newa (t := 64) dTab_init_14 rfl (by decide) (by decide) q_ac_int (by decide) (N := 24) (by decide) (by decide) (by simp; omega) ?_
  refine QW.putF dTab_init_16 gTab_15 rfl (by rw [List.append_assoc]; exact q_apl (q_gs ha)) rfl (fun _ => rfl) (fun _ => rfl) ?_
  refine QW.hq (h' := h.set a (9, [.int 0, .int 0, .ref h.length, .ref (h.length + 1)]) ++ [(65, List.replicate 3 (.int 0)), (64, List.replicate 24 (.int 0))]) ?_ ?_
  · rw [List.append_assoc, q_sap (q_gs ha), q_ss]; simp [defaultValue, newarray.typeOf]
  refine QW.vret dTab_init_19 rfl hp

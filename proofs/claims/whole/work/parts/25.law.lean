section BLK
variable {d : Nat} {P : qE → Prop} {X : qH} {mem : Nat → Nat → Int32} {sw : Bool} {o : Int64} {e : List Nat}
theorem dLa_table_0 : decode mLa_table.2.1 0 = .ok (.aload_n 2, 1) := by decide +kernel
theorem dLa_table_1 : decode mLa_table.2.1 1 = .ok (.iconst 0, 1) := by decide +kernel
theorem dLa_table_2 : decode mLa_table.2.1 2 = .ok (.aload_n 0, 1) := by decide +kernel
theorem dLa_table_3 : decode mLa_table.2.1 3 = .ok (.iload_n 1, 1) := by decide +kernel
theorem dLa_table_4 : decode mLa_table.2.1 4 = .ok (.invokevirtual 7, 3) := by decide +kernel
theorem dLa_table_7 : decode mLa_table.2.1 7 = .ok (.i2l, 1) := by decide +kernel
theorem dLa_table_8 : decode mLa_table.2.1 8 = .ok (.lastore, 1) := by decide +kernel
theorem dLa_table_9 : decode mLa_table.2.1 9 = .ok (.goto 9, 3) := by decide +kernel
theorem dLa_table_12 : decode mLa_table.2.1 12 = .ok (.astore_n 3, 1) := by decide +kernel
theorem dLa_table_13 : decode mLa_table.2.1 13 = .ok (.iconst 1, 1) := by decide +kernel
theorem dLa_table_14 : decode mLa_table.2.1 14 = .ok (.ireturn, 1) := by decide +kernel
theorem dLa_table_15 : decode mLa_table.2.1 15 = .ok (.astore_n 3, 1) := by decide +kernel
theorem dLa_table_16 : decode mLa_table.2.1 16 = .ok (.iconst 2, 1) := by decide +kernel
theorem dLa_table_17 : decode mLa_table.2.1 17 = .ok (.ireturn, 1) := by decide +kernel
theorem dLa_table_18 : decode mLa_table.2.1 18 = .ok (.iconst 0, 1) := by decide +kernel
theorem dLa_table_19 : decode mLa_table.2.1 19 = .ok (.ireturn, 1) := by decide +kernel
def lLa_table_7 (a1 : Int32) : List Slot := [.val (.ref 13), .val (.int a1), .val (.ref 224), .unset]
def lLa_table_12 (a1 : Int32) : List Slot := [.val (.ref 13), .val (.int a1), .val (.ref 224), .unset]
def lLa_table_15 (a1 : Int32) : List Slot := [.val (.ref 13), .val (.int a1), .val (.ref 224), .unset]
theorem bLa_table_0 {a1 : Int32} (hX : X.length = 13) (k1 : QW d mBp_table 0 (qen 2 [.ref 13, .int a1]) [] (hpo X mem sw o e) (qcl d mLa_table 4 7 (lLa_table_7 a1) [.int 0, .ref 224] P)) : QW (d + 1) mLa_table 0 (qen 4 [.ref 13, .int a1, .ref 224]) [] (hpo X mem sw o e) P := by
  show QW (d + 1) mLa_table 0 [.val (.ref 13), .val (.int a1), .val (.ref 224), .unset] [] (hpo X mem sw o e) P
  refine QW.aload_n dLa_table_0 rfl rfl ?_
  refine QW.iconst (v := 0) dLa_table_1 (by decide) ?_
  refine QW.aload_n dLa_table_2 rfl rfl ?_
  refine QW.iload_n dLa_table_3 rfl rfl ?_
  exact MW.calV (as := [.int a1]) (rest := [.int 0, .ref 224]) hX dLa_table_4 eBp_table lLa_7 iBp_table vBp_table rfl rfl rfl rfl rfl rfl (Nat.le_of_ble_eq_true rfl) rfl k1
theorem bLa_table_7 {a1 : Int32} {s2 : Int32} (hX : X.length = 13) (k1 : P (.inl (some (.int 0)), (hpo X mem sw (Int32.toInt64 s2) e))) : QW d mLa_table 7 (lLa_table_7 a1) [.int s2, .int 0, .ref 224] (hpo X mem sw o e) P := by
  show QW d mLa_table 7 [.val (.ref 13), .val (.int a1), .val (.ref 224), .unset] [.int s2, .int 0, .ref 224] (hpo X mem sw o e) P
  refine QW.i2l dLa_table_7 ?_
  refine MW.last hX dLa_table_8 ?_
  refine QW.goto (tgt := 18) dLa_table_9 (by decide) ?_
  refine QW.iconst (v := 0) dLa_table_18 (by decide) ?_
  exact QW.iret dLa_table_19 rfl rfl k1
theorem bLa_table_12 {a1 : Int32} {q0 : Nat} (hX : X.length = 13) (k1 : P (.inl (some (.int 1)), (hpo X mem sw o e))) : QW d mLa_table 12 (lLa_table_12 a1) [.ref q0] (hpo X mem sw o e) P := by
  show QW d mLa_table 12 [.val (.ref 13), .val (.int a1), .val (.ref 224), .unset] [.ref q0] (hpo X mem sw o e) P
  refine QW.astore_n (ls' := [.val (.ref 13), .val (.int a1), .val (.ref 224), .val (.ref q0)]) dLa_table_12 rfl rfl ?_
  refine QW.iconst (v := 1) dLa_table_13 (by decide) ?_
  exact QW.iret dLa_table_14 rfl rfl k1
theorem bLa_table_15 {a1 : Int32} {q0 : Nat} (hX : X.length = 13) (k1 : P (.inl (some (.int 2)), (hpo X mem sw o e))) : QW d mLa_table 15 (lLa_table_15 a1) [.ref q0] (hpo X mem sw o e) P := by
  show QW d mLa_table 15 [.val (.ref 13), .val (.int a1), .val (.ref 224), .unset] [.ref q0] (hpo X mem sw o e) P
  refine QW.astore_n (ls' := [.val (.ref 13), .val (.int a1), .val (.ref 224), .val (.ref q0)]) dLa_table_15 rfl rfl ?_
  refine QW.iconst (v := 2) dLa_table_16 (by decide) ?_
  exact QW.iret dLa_table_17 rfl rfl k1
theorem dLa_key_0 : decode mLa_key.2.1 0 = .ok (.aload_n 0, 1) := by decide +kernel
theorem dLa_key_1 : decode mLa_key.2.1 1 = .ok (.iload_n 1, 1) := by decide +kernel
theorem dLa_key_2 : decode mLa_key.2.1 2 = .ok (.iload_n 2, 1) := by decide +kernel
theorem dLa_key_3 : decode mLa_key.2.1 3 = .ok (.invokevirtual 17, 3) := by decide +kernel
theorem dLa_key_6 : decode mLa_key.2.1 6 = .ok (.goto 9, 3) := by decide +kernel
theorem dLa_key_9 : decode mLa_key.2.1 9 = .ok (.astore_n 3, 1) := by decide +kernel
theorem dLa_key_10 : decode mLa_key.2.1 10 = .ok (.iconst 1, 1) := by decide +kernel
theorem dLa_key_11 : decode mLa_key.2.1 11 = .ok (.ireturn, 1) := by decide +kernel
theorem dLa_key_12 : decode mLa_key.2.1 12 = .ok (.astore_n 3, 1) := by decide +kernel
theorem dLa_key_13 : decode mLa_key.2.1 13 = .ok (.iconst 2, 1) := by decide +kernel
theorem dLa_key_14 : decode mLa_key.2.1 14 = .ok (.ireturn, 1) := by decide +kernel
theorem dLa_key_15 : decode mLa_key.2.1 15 = .ok (.iconst 0, 1) := by decide +kernel
theorem dLa_key_16 : decode mLa_key.2.1 16 = .ok (.ireturn, 1) := by decide +kernel
def lLa_key_6 (a1 : Int32) (a2 : Int32) : List Slot := [.val (.ref 13), .val (.int a1), .val (.int a2), .unset]
def lLa_key_9 (a1 : Int32) (a2 : Int32) : List Slot := [.val (.ref 13), .val (.int a1), .val (.int a2), .unset]
def lLa_key_12 (a1 : Int32) (a2 : Int32) : List Slot := [.val (.ref 13), .val (.int a1), .val (.int a2), .unset]
theorem bLa_key_0 {a1 : Int32} {a2 : Int32} (hX : X.length = 13) (k1 : QW d mBp_key 0 (qen 4 [.ref 13, .int a1, .int a2]) [] (hpo X mem sw o e) (qcl d mLa_key 3 6 (lLa_key_6 a1 a2) [] P)) : QW (d + 1) mLa_key 0 (qen 4 [.ref 13, .int a1, .int a2]) [] (hpo X mem sw o e) P := by
  show QW (d + 1) mLa_key 0 [.val (.ref 13), .val (.int a1), .val (.int a2), .unset] [] (hpo X mem sw o e) P
  refine QW.aload_n dLa_key_0 rfl rfl ?_
  refine QW.iload_n dLa_key_1 rfl rfl ?_
  refine QW.iload_n dLa_key_2 rfl rfl ?_
  exact MW.calV (as := [.int a1, .int a2]) (rest := []) hX dLa_key_3 eBp_key lLa_17 iBp_key vBp_key rfl rfl rfl rfl rfl rfl (Nat.le_of_ble_eq_true rfl) rfl k1
theorem bLa_key_6 {a1 : Int32} {a2 : Int32} (hX : X.length = 13) (k1 : P (.inl (some (.int 0)), (hpo X mem sw o e))) : QW d mLa_key 6 (lLa_key_6 a1 a2) [] (hpo X mem sw o e) P := by
  show QW d mLa_key 6 [.val (.ref 13), .val (.int a1), .val (.int a2), .unset] [] (hpo X mem sw o e) P
  refine QW.goto (tgt := 15) dLa_key_6 (by decide) ?_
  refine QW.iconst (v := 0) dLa_key_15 (by decide) ?_
  exact QW.iret dLa_key_16 rfl rfl k1
theorem bLa_key_9 {a1 : Int32} {a2 : Int32} {q0 : Nat} (hX : X.length = 13) (k1 : P (.inl (some (.int 1)), (hpo X mem sw o e))) : QW d mLa_key 9 (lLa_key_9 a1 a2) [.ref q0] (hpo X mem sw o e) P := by
  show QW d mLa_key 9 [.val (.ref 13), .val (.int a1), .val (.int a2), .unset] [.ref q0] (hpo X mem sw o e) P
  refine QW.astore_n (ls' := [.val (.ref 13), .val (.int a1), .val (.int a2), .val (.ref q0)]) dLa_key_9 rfl rfl ?_
  refine QW.iconst (v := 1) dLa_key_10 (by decide) ?_
  exact QW.iret dLa_key_11 rfl rfl k1
theorem bLa_key_12 {a1 : Int32} {a2 : Int32} {q0 : Nat} (hX : X.length = 13) (k1 : P (.inl (some (.int 2)), (hpo X mem sw o e))) : QW d mLa_key 12 (lLa_key_12 a1 a2) [.ref q0] (hpo X mem sw o e) P := by
  show QW d mLa_key 12 [.val (.ref 13), .val (.int a1), .val (.int a2), .unset] [.ref q0] (hpo X mem sw o e) P
  refine QW.astore_n (ls' := [.val (.ref 13), .val (.int a1), .val (.int a2), .val (.ref q0)]) dLa_key_12 rfl rfl ?_
  refine QW.iconst (v := 2) dLa_key_13 (by decide) ?_
  exact QW.iret dLa_key_14 rfl rfl k1
theorem dLa_insert_0 : decode mLa_insert.2.1 0 = .ok (.aload 5, 2) := by decide +kernel
theorem dLa_insert_2 : decode mLa_insert.2.1 2 = .ok (.iconst 0, 1) := by decide +kernel
theorem dLa_insert_3 : decode mLa_insert.2.1 3 = .ok (.aload_n 0, 1) := by decide +kernel
theorem dLa_insert_4 : decode mLa_insert.2.1 4 = .ok (.iload_n 1, 1) := by decide +kernel
theorem dLa_insert_5 : decode mLa_insert.2.1 5 = .ok (.iload_n 2, 1) := by decide +kernel
theorem dLa_insert_6 : decode mLa_insert.2.1 6 = .ok (.iload_n 3, 1) := by decide +kernel
theorem dLa_insert_7 : decode mLa_insert.2.1 7 = .ok (.iload 4, 2) := by decide +kernel
theorem dLa_insert_9 : decode mLa_insert.2.1 9 = .ok (.invokevirtual 21, 3) := by decide +kernel
theorem dLa_insert_12 : decode mLa_insert.2.1 12 = .ok (.i2l, 1) := by decide +kernel
theorem dLa_insert_13 : decode mLa_insert.2.1 13 = .ok (.lastore, 1) := by decide +kernel
theorem dLa_insert_14 : decode mLa_insert.2.1 14 = .ok (.goto 11, 3) := by decide +kernel
theorem dLa_insert_17 : decode mLa_insert.2.1 17 = .ok (.astore 6, 2) := by decide +kernel
theorem dLa_insert_19 : decode mLa_insert.2.1 19 = .ok (.iconst 1, 1) := by decide +kernel
theorem dLa_insert_20 : decode mLa_insert.2.1 20 = .ok (.ireturn, 1) := by decide +kernel
theorem dLa_insert_21 : decode mLa_insert.2.1 21 = .ok (.astore 6, 2) := by decide +kernel
theorem dLa_insert_23 : decode mLa_insert.2.1 23 = .ok (.iconst 2, 1) := by decide +kernel
theorem dLa_insert_24 : decode mLa_insert.2.1 24 = .ok (.ireturn, 1) := by decide +kernel
theorem dLa_insert_25 : decode mLa_insert.2.1 25 = .ok (.iconst 0, 1) := by decide +kernel
theorem dLa_insert_26 : decode mLa_insert.2.1 26 = .ok (.ireturn, 1) := by decide +kernel
def lLa_insert_12 (a1 : Int32) (a2 : Int32) (a3 : Int32) (a4 : Int32) : List Slot := [.val (.ref 13), .val (.int a1), .val (.int a2), .val (.int a3), .val (.int a4), .val (.ref 224), .unset]
def lLa_insert_17 (a1 : Int32) (a2 : Int32) (a3 : Int32) (a4 : Int32) : List Slot := [.val (.ref 13), .val (.int a1), .val (.int a2), .val (.int a3), .val (.int a4), .val (.ref 224), .unset]
def lLa_insert_21 (a1 : Int32) (a2 : Int32) (a3 : Int32) (a4 : Int32) : List Slot := [.val (.ref 13), .val (.int a1), .val (.int a2), .val (.int a3), .val (.int a4), .val (.ref 224), .unset]
theorem bLa_insert_0 {a1 : Int32} {a2 : Int32} {a3 : Int32} {a4 : Int32} (hX : X.length = 13) (k1 : QW d mBp_insert 0 (qen 6 [.ref 13, .int a1, .int a2, .int a3, .int a4]) [] (hpo X mem sw o e) (qcl d mLa_insert 9 12 (lLa_insert_12 a1 a2 a3 a4) [.int 0, .ref 224] P)) : QW (d + 1) mLa_insert 0 (qen 7 [.ref 13, .int a1, .int a2, .int a3, .int a4, .ref 224]) [] (hpo X mem sw o e) P := by
  show QW (d + 1) mLa_insert 0 [.val (.ref 13), .val (.int a1), .val (.int a2), .val (.int a3), .val (.int a4), .val (.ref 224), .unset] [] (hpo X mem sw o e) P
  refine QW.aload dLa_insert_0 rfl ?_
  refine QW.iconst (v := 0) dLa_insert_2 (by decide) ?_
  refine QW.aload_n dLa_insert_3 rfl rfl ?_
  refine QW.iload_n dLa_insert_4 rfl rfl ?_
  refine QW.iload_n dLa_insert_5 rfl rfl ?_
  refine QW.iload_n dLa_insert_6 rfl rfl ?_
  refine QW.iload dLa_insert_7 rfl ?_
  exact MW.calV (as := [.int a1, .int a2, .int a3, .int a4]) (rest := [.int 0, .ref 224]) hX dLa_insert_9 eBp_insert lLa_21 iBp_insert vBp_insert rfl rfl rfl rfl rfl rfl (Nat.le_of_ble_eq_true rfl) rfl k1
theorem bLa_insert_12 {a1 : Int32} {a2 : Int32} {a3 : Int32} {a4 : Int32} {s2 : Int32} (hX : X.length = 13) (k1 : P (.inl (some (.int 0)), (hpo X mem sw (Int32.toInt64 s2) e))) : QW d mLa_insert 12 (lLa_insert_12 a1 a2 a3 a4) [.int s2, .int 0, .ref 224] (hpo X mem sw o e) P := by
  show QW d mLa_insert 12 [.val (.ref 13), .val (.int a1), .val (.int a2), .val (.int a3), .val (.int a4), .val (.ref 224), .unset] [.int s2, .int 0, .ref 224] (hpo X mem sw o e) P
  refine QW.i2l dLa_insert_12 ?_
  refine MW.last hX dLa_insert_13 ?_
  refine QW.goto (tgt := 25) dLa_insert_14 (by decide) ?_
  refine QW.iconst (v := 0) dLa_insert_25 (by decide) ?_
  exact QW.iret dLa_insert_26 rfl rfl k1
theorem bLa_insert_17 {a1 : Int32} {a2 : Int32} {a3 : Int32} {a4 : Int32} {q0 : Nat} (hX : X.length = 13) (k1 : P (.inl (some (.int 1)), (hpo X mem sw o e))) : QW d mLa_insert 17 (lLa_insert_17 a1 a2 a3 a4) [.ref q0] (hpo X mem sw o e) P := by
  show QW d mLa_insert 17 [.val (.ref 13), .val (.int a1), .val (.int a2), .val (.int a3), .val (.int a4), .val (.ref 224), .unset] [.ref q0] (hpo X mem sw o e) P
  refine QW.astore (ls' := [.val (.ref 13), .val (.int a1), .val (.int a2), .val (.int a3), .val (.int a4), .val (.ref 224), .val (.ref q0)]) dLa_insert_17 rfl ?_
  refine QW.iconst (v := 1) dLa_insert_19 (by decide) ?_
  exact QW.iret dLa_insert_20 rfl rfl k1
theorem bLa_insert_21 {a1 : Int32} {a2 : Int32} {a3 : Int32} {a4 : Int32} {q0 : Nat} (hX : X.length = 13) (k1 : P (.inl (some (.int 2)), (hpo X mem sw o e))) : QW d mLa_insert 21 (lLa_insert_21 a1 a2 a3 a4) [.ref q0] (hpo X mem sw o e) P := by
  show QW d mLa_insert 21 [.val (.ref 13), .val (.int a1), .val (.int a2), .val (.int a3), .val (.int a4), .val (.ref 224), .unset] [.ref q0] (hpo X mem sw o e) P
  refine QW.astore (ls' := [.val (.ref 13), .val (.int a1), .val (.int a2), .val (.int a3), .val (.int a4), .val (.ref 224), .val (.ref q0)]) dLa_insert_21 rfl ?_
  refine QW.iconst (v := 2) dLa_insert_23 (by decide) ?_
  exact QW.iret dLa_insert_24 rfl rfl k1
theorem dLa_delete_0 : decode mLa_delete.2.1 0 = .ok (.aload 4, 2) := by decide +kernel
theorem dLa_delete_2 : decode mLa_delete.2.1 2 = .ok (.iconst 0, 1) := by decide +kernel
theorem dLa_delete_3 : decode mLa_delete.2.1 3 = .ok (.aload_n 0, 1) := by decide +kernel
theorem dLa_delete_4 : decode mLa_delete.2.1 4 = .ok (.iload_n 1, 1) := by decide +kernel
theorem dLa_delete_5 : decode mLa_delete.2.1 5 = .ok (.iload_n 2, 1) := by decide +kernel
theorem dLa_delete_6 : decode mLa_delete.2.1 6 = .ok (.iload_n 3, 1) := by decide +kernel
theorem dLa_delete_7 : decode mLa_delete.2.1 7 = .ok (.invokevirtual 25, 3) := by decide +kernel
theorem dLa_delete_10 : decode mLa_delete.2.1 10 = .ok (.i2l, 1) := by decide +kernel
theorem dLa_delete_11 : decode mLa_delete.2.1 11 = .ok (.lastore, 1) := by decide +kernel
theorem dLa_delete_12 : decode mLa_delete.2.1 12 = .ok (.goto 7, 3) := by decide +kernel
theorem dLa_delete_15 : decode mLa_delete.2.1 15 = .ok (.astore 5, 2) := by decide +kernel
theorem dLa_delete_17 : decode mLa_delete.2.1 17 = .ok (.iconst 1, 1) := by decide +kernel
theorem dLa_delete_18 : decode mLa_delete.2.1 18 = .ok (.ireturn, 1) := by decide +kernel
theorem dLa_delete_19 : decode mLa_delete.2.1 19 = .ok (.iconst 0, 1) := by decide +kernel
theorem dLa_delete_20 : decode mLa_delete.2.1 20 = .ok (.ireturn, 1) := by decide +kernel
def lLa_delete_10 (a1 : Int32) (a2 : Int32) (a3 : Int32) : List Slot := [.val (.ref 13), .val (.int a1), .val (.int a2), .val (.int a3), .val (.ref 224), .unset]
def lLa_delete_15 (a1 : Int32) (a2 : Int32) (a3 : Int32) : List Slot := [.val (.ref 13), .val (.int a1), .val (.int a2), .val (.int a3), .val (.ref 224), .unset]
theorem bLa_delete_0 {a1 : Int32} {a2 : Int32} {a3 : Int32} (hX : X.length = 13) (k1 : QW d mBp_delete 0 (qen 4 [.ref 13, .int a1, .int a2, .int a3]) [] (hpo X mem sw o e) (qcl d mLa_delete 7 10 (lLa_delete_10 a1 a2 a3) [.int 0, .ref 224] P)) : QW (d + 1) mLa_delete 0 (qen 6 [.ref 13, .int a1, .int a2, .int a3, .ref 224]) [] (hpo X mem sw o e) P := by
  show QW (d + 1) mLa_delete 0 [.val (.ref 13), .val (.int a1), .val (.int a2), .val (.int a3), .val (.ref 224), .unset] [] (hpo X mem sw o e) P
  refine QW.aload dLa_delete_0 rfl ?_
  refine QW.iconst (v := 0) dLa_delete_2 (by decide) ?_
  refine QW.aload_n dLa_delete_3 rfl rfl ?_
  refine QW.iload_n dLa_delete_4 rfl rfl ?_
  refine QW.iload_n dLa_delete_5 rfl rfl ?_
  refine QW.iload_n dLa_delete_6 rfl rfl ?_
  exact MW.calV (as := [.int a1, .int a2, .int a3]) (rest := [.int 0, .ref 224]) hX dLa_delete_7 eBp_delete lLa_25 iBp_delete vBp_delete rfl rfl rfl rfl rfl rfl (Nat.le_of_ble_eq_true rfl) rfl k1
theorem bLa_delete_10 {a1 : Int32} {a2 : Int32} {a3 : Int32} {s2 : Int32} (hX : X.length = 13) (k1 : P (.inl (some (.int 0)), (hpo X mem sw (Int32.toInt64 s2) e))) : QW d mLa_delete 10 (lLa_delete_10 a1 a2 a3) [.int s2, .int 0, .ref 224] (hpo X mem sw o e) P := by
  show QW d mLa_delete 10 [.val (.ref 13), .val (.int a1), .val (.int a2), .val (.int a3), .val (.ref 224), .unset] [.int s2, .int 0, .ref 224] (hpo X mem sw o e) P
  refine QW.i2l dLa_delete_10 ?_
  refine MW.last hX dLa_delete_11 ?_
  refine QW.goto (tgt := 19) dLa_delete_12 (by decide) ?_
  refine QW.iconst (v := 0) dLa_delete_19 (by decide) ?_
  exact QW.iret dLa_delete_20 rfl rfl k1
theorem bLa_delete_15 {a1 : Int32} {a2 : Int32} {a3 : Int32} {q0 : Nat} (hX : X.length = 13) (k1 : P (.inl (some (.int 1)), (hpo X mem sw o e))) : QW d mLa_delete 15 (lLa_delete_15 a1 a2 a3) [.ref q0] (hpo X mem sw o e) P := by
  show QW d mLa_delete 15 [.val (.ref 13), .val (.int a1), .val (.int a2), .val (.int a3), .val (.ref 224), .unset] [.ref q0] (hpo X mem sw o e) P
  refine QW.astore (ls' := [.val (.ref 13), .val (.int a1), .val (.int a2), .val (.int a3), .val (.ref 224), .val (.ref q0)]) dLa_delete_15 rfl ?_
  refine QW.iconst (v := 1) dLa_delete_17 (by decide) ?_
  exact QW.iret dLa_delete_18 rfl rfl k1
theorem dLa_question_0 : decode mLa_question.2.1 0 = .ok (.aload_n 1, 1) := by decide +kernel
theorem dLa_question_1 : decode mLa_question.2.1 1 = .ok (.iconst 0, 1) := by decide +kernel
theorem dLa_question_2 : decode mLa_question.2.1 2 = .ok (.aload_n 0, 1) := by decide +kernel
theorem dLa_question_3 : decode mLa_question.2.1 3 = .ok (.invokevirtual 29, 3) := by decide +kernel
theorem dLa_question_6 : decode mLa_question.2.1 6 = .ok (.i2l, 1) := by decide +kernel
theorem dLa_question_7 : decode mLa_question.2.1 7 = .ok (.lastore, 1) := by decide +kernel
theorem dLa_question_8 : decode mLa_question.2.1 8 = .ok (.goto 9, 3) := by decide +kernel
theorem dLa_question_11 : decode mLa_question.2.1 11 = .ok (.astore_n 2, 1) := by decide +kernel
theorem dLa_question_12 : decode mLa_question.2.1 12 = .ok (.iconst 1, 1) := by decide +kernel
theorem dLa_question_13 : decode mLa_question.2.1 13 = .ok (.ireturn, 1) := by decide +kernel
theorem dLa_question_14 : decode mLa_question.2.1 14 = .ok (.astore_n 2, 1) := by decide +kernel
theorem dLa_question_15 : decode mLa_question.2.1 15 = .ok (.iconst 2, 1) := by decide +kernel
theorem dLa_question_16 : decode mLa_question.2.1 16 = .ok (.ireturn, 1) := by decide +kernel
theorem dLa_question_17 : decode mLa_question.2.1 17 = .ok (.iconst 0, 1) := by decide +kernel
theorem dLa_question_18 : decode mLa_question.2.1 18 = .ok (.ireturn, 1) := by decide +kernel
def lLa_question_6  : List Slot := [.val (.ref 13), .val (.ref 224), .unset]
def lLa_question_11  : List Slot := [.val (.ref 13), .val (.ref 224), .unset]
def lLa_question_14  : List Slot := [.val (.ref 13), .val (.ref 224), .unset]
theorem bLa_question_0 (hX : X.length = 13) (k1 : QW d mBp_question 0 (qen 1 [.ref 13]) [] (hpo X mem sw o e) (qcl d mLa_question 3 6 lLa_question_6 [.int 0, .ref 224] P)) : QW (d + 1) mLa_question 0 (qen 3 [.ref 13, .ref 224]) [] (hpo X mem sw o e) P := by
  show QW (d + 1) mLa_question 0 [.val (.ref 13), .val (.ref 224), .unset] [] (hpo X mem sw o e) P
  refine QW.aload_n dLa_question_0 rfl rfl ?_
  refine QW.iconst (v := 0) dLa_question_1 (by decide) ?_
  refine QW.aload_n dLa_question_2 rfl rfl ?_
  exact MW.calV (as := []) (rest := [.int 0, .ref 224]) hX dLa_question_3 eBp_question lLa_29 iBp_question vBp_question rfl rfl rfl rfl rfl rfl (Nat.le_of_ble_eq_true rfl) rfl k1
theorem bLa_question_6 {s2 : Int32} (hX : X.length = 13) (k1 : P (.inl (some (.int 0)), (hpo X mem sw (Int32.toInt64 s2) e))) : QW d mLa_question 6 (lLa_question_6) [.int s2, .int 0, .ref 224] (hpo X mem sw o e) P := by
  show QW d mLa_question 6 [.val (.ref 13), .val (.ref 224), .unset] [.int s2, .int 0, .ref 224] (hpo X mem sw o e) P
  refine QW.i2l dLa_question_6 ?_
  refine MW.last hX dLa_question_7 ?_
  refine QW.goto (tgt := 17) dLa_question_8 (by decide) ?_
  refine QW.iconst (v := 0) dLa_question_17 (by decide) ?_
  exact QW.iret dLa_question_18 rfl rfl k1
theorem bLa_question_11 {q0 : Nat} (hX : X.length = 13) (k1 : P (.inl (some (.int 1)), (hpo X mem sw o e))) : QW d mLa_question 11 (lLa_question_11) [.ref q0] (hpo X mem sw o e) P := by
  show QW d mLa_question 11 [.val (.ref 13), .val (.ref 224), .unset] [.ref q0] (hpo X mem sw o e) P
  refine QW.astore_n (ls' := [.val (.ref 13), .val (.ref 224), .val (.ref q0)]) dLa_question_11 rfl rfl ?_
  refine QW.iconst (v := 1) dLa_question_12 (by decide) ?_
  exact QW.iret dLa_question_13 rfl rfl k1
theorem bLa_question_14 {q0 : Nat} (hX : X.length = 13) (k1 : P (.inl (some (.int 2)), (hpo X mem sw o e))) : QW d mLa_question 14 (lLa_question_14) [.ref q0] (hpo X mem sw o e) P := by
  show QW d mLa_question 14 [.val (.ref 13), .val (.ref 224), .unset] [.ref q0] (hpo X mem sw o e) P
  refine QW.astore_n (ls' := [.val (.ref 13), .val (.ref 224), .val (.ref q0)]) dLa_question_14 rfl rfl ?_
  refine QW.iconst (v := 2) dLa_question_15 (by decide) ?_
  exact QW.iret dLa_question_16 rfl rfl k1
theorem dLa_run_0 : decode mLa_run.2.1 0 = .ok (.aload_n 2, 1) := by decide +kernel
theorem dLa_run_1 : decode mLa_run.2.1 1 = .ok (.iconst 0, 1) := by decide +kernel
theorem dLa_run_2 : decode mLa_run.2.1 2 = .ok (.aload_n 0, 1) := by decide +kernel
theorem dLa_run_3 : decode mLa_run.2.1 3 = .ok (.iload_n 1, 1) := by decide +kernel
theorem dLa_run_4 : decode mLa_run.2.1 4 = .ok (.invokevirtual 33, 3) := by decide +kernel
theorem dLa_run_7 : decode mLa_run.2.1 7 = .ok (.i2l, 1) := by decide +kernel
theorem dLa_run_8 : decode mLa_run.2.1 8 = .ok (.lastore, 1) := by decide +kernel
theorem dLa_run_9 : decode mLa_run.2.1 9 = .ok (.goto 9, 3) := by decide +kernel
theorem dLa_run_12 : decode mLa_run.2.1 12 = .ok (.astore_n 3, 1) := by decide +kernel
theorem dLa_run_13 : decode mLa_run.2.1 13 = .ok (.iconst 1, 1) := by decide +kernel
theorem dLa_run_14 : decode mLa_run.2.1 14 = .ok (.ireturn, 1) := by decide +kernel
theorem dLa_run_15 : decode mLa_run.2.1 15 = .ok (.astore_n 3, 1) := by decide +kernel
theorem dLa_run_16 : decode mLa_run.2.1 16 = .ok (.iconst 2, 1) := by decide +kernel
theorem dLa_run_17 : decode mLa_run.2.1 17 = .ok (.ireturn, 1) := by decide +kernel
theorem dLa_run_18 : decode mLa_run.2.1 18 = .ok (.iconst 0, 1) := by decide +kernel
theorem dLa_run_19 : decode mLa_run.2.1 19 = .ok (.ireturn, 1) := by decide +kernel
def lLa_run_7 (a1 : Int32) : List Slot := [.val (.ref 13), .val (.int a1), .val (.ref 224), .unset]
def lLa_run_12 (a1 : Int32) : List Slot := [.val (.ref 13), .val (.int a1), .val (.ref 224), .unset]
def lLa_run_15 (a1 : Int32) : List Slot := [.val (.ref 13), .val (.int a1), .val (.ref 224), .unset]
theorem bLa_run_0 {a1 : Int32} (hX : X.length = 13) (k1 : QW d mBp_run 0 (qen 3 [.ref 13, .int a1]) [] (hpo X mem sw o e) (qcl d mLa_run 4 7 (lLa_run_7 a1) [.int 0, .ref 224] P)) : QW (d + 1) mLa_run 0 (qen 4 [.ref 13, .int a1, .ref 224]) [] (hpo X mem sw o e) P := by
  show QW (d + 1) mLa_run 0 [.val (.ref 13), .val (.int a1), .val (.ref 224), .unset] [] (hpo X mem sw o e) P
  refine QW.aload_n dLa_run_0 rfl rfl ?_
  refine QW.iconst (v := 0) dLa_run_1 (by decide) ?_
  refine QW.aload_n dLa_run_2 rfl rfl ?_
  refine QW.iload_n dLa_run_3 rfl rfl ?_
  exact MW.calV (as := [.int a1]) (rest := [.int 0, .ref 224]) hX dLa_run_4 eBp_run lLa_33 iBp_run vBp_run rfl rfl rfl rfl rfl rfl (Nat.le_of_ble_eq_true rfl) rfl k1
theorem bLa_run_7 {a1 : Int32} {s2 : Int32} (hX : X.length = 13) (k1 : P (.inl (some (.int 0)), (hpo X mem sw (Int32.toInt64 s2) e))) : QW d mLa_run 7 (lLa_run_7 a1) [.int s2, .int 0, .ref 224] (hpo X mem sw o e) P := by
  show QW d mLa_run 7 [.val (.ref 13), .val (.int a1), .val (.ref 224), .unset] [.int s2, .int 0, .ref 224] (hpo X mem sw o e) P
  refine QW.i2l dLa_run_7 ?_
  refine MW.last hX dLa_run_8 ?_
  refine QW.goto (tgt := 18) dLa_run_9 (by decide) ?_
  refine QW.iconst (v := 0) dLa_run_18 (by decide) ?_
  exact QW.iret dLa_run_19 rfl rfl k1
theorem bLa_run_12 {a1 : Int32} {q0 : Nat} (hX : X.length = 13) (k1 : P (.inl (some (.int 1)), (hpo X mem sw o e))) : QW d mLa_run 12 (lLa_run_12 a1) [.ref q0] (hpo X mem sw o e) P := by
  show QW d mLa_run 12 [.val (.ref 13), .val (.int a1), .val (.ref 224), .unset] [.ref q0] (hpo X mem sw o e) P
  refine QW.astore_n (ls' := [.val (.ref 13), .val (.int a1), .val (.ref 224), .val (.ref q0)]) dLa_run_12 rfl rfl ?_
  refine QW.iconst (v := 1) dLa_run_13 (by decide) ?_
  exact QW.iret dLa_run_14 rfl rfl k1
theorem bLa_run_15 {a1 : Int32} {q0 : Nat} (hX : X.length = 13) (k1 : P (.inl (some (.int 2)), (hpo X mem sw o e))) : QW d mLa_run 15 (lLa_run_15 a1) [.ref q0] (hpo X mem sw o e) P := by
  show QW d mLa_run 15 [.val (.ref 13), .val (.int a1), .val (.ref 224), .unset] [.ref q0] (hpo X mem sw o e) P
  refine QW.astore_n (ls' := [.val (.ref 13), .val (.int a1), .val (.ref 224), .val (.ref q0)]) dLa_run_15 rfl rfl ?_
  refine QW.iconst (v := 2) dLa_run_16 (by decide) ?_
  exact QW.iret dLa_run_17 rfl rfl k1
theorem dLa_row_0 : decode mLa_row.2.1 0 = .ok (.aload_n 3, 1) := by decide +kernel
theorem dLa_row_1 : decode mLa_row.2.1 1 = .ok (.iconst 0, 1) := by decide +kernel
theorem dLa_row_2 : decode mLa_row.2.1 2 = .ok (.aload_n 0, 1) := by decide +kernel
theorem dLa_row_3 : decode mLa_row.2.1 3 = .ok (.iload_n 1, 1) := by decide +kernel
theorem dLa_row_4 : decode mLa_row.2.1 4 = .ok (.iload_n 2, 1) := by decide +kernel
theorem dLa_row_5 : decode mLa_row.2.1 5 = .ok (.invokevirtual 38, 3) := by decide +kernel
theorem dLa_row_8 : decode mLa_row.2.1 8 = .ok (.i2l, 1) := by decide +kernel
theorem dLa_row_9 : decode mLa_row.2.1 9 = .ok (.lastore, 1) := by decide +kernel
theorem dLa_row_10 : decode mLa_row.2.1 10 = .ok (.goto 7, 3) := by decide +kernel
theorem dLa_row_13 : decode mLa_row.2.1 13 = .ok (.astore 4, 2) := by decide +kernel
theorem dLa_row_15 : decode mLa_row.2.1 15 = .ok (.iconst 1, 1) := by decide +kernel
theorem dLa_row_16 : decode mLa_row.2.1 16 = .ok (.ireturn, 1) := by decide +kernel
theorem dLa_row_17 : decode mLa_row.2.1 17 = .ok (.iconst 0, 1) := by decide +kernel
theorem dLa_row_18 : decode mLa_row.2.1 18 = .ok (.ireturn, 1) := by decide +kernel
def lLa_row_8 (a1 : Int32) (a2 : Int32) : List Slot := [.val (.ref 13), .val (.int a1), .val (.int a2), .val (.ref 224), .unset]
def lLa_row_13 (a1 : Int32) (a2 : Int32) : List Slot := [.val (.ref 13), .val (.int a1), .val (.int a2), .val (.ref 224), .unset]
theorem bLa_row_0 {a1 : Int32} {a2 : Int32} (hX : X.length = 13) (k1 : QW d mBp_row 0 (qen 3 [.ref 13, .int a1, .int a2]) [] (hpo X mem sw o e) (qcl d mLa_row 5 8 (lLa_row_8 a1 a2) [.int 0, .ref 224] P)) : QW (d + 1) mLa_row 0 (qen 5 [.ref 13, .int a1, .int a2, .ref 224]) [] (hpo X mem sw o e) P := by
  show QW (d + 1) mLa_row 0 [.val (.ref 13), .val (.int a1), .val (.int a2), .val (.ref 224), .unset] [] (hpo X mem sw o e) P
  refine QW.aload_n dLa_row_0 rfl rfl ?_
  refine QW.iconst (v := 0) dLa_row_1 (by decide) ?_
  refine QW.aload_n dLa_row_2 rfl rfl ?_
  refine QW.iload_n dLa_row_3 rfl rfl ?_
  refine QW.iload_n dLa_row_4 rfl rfl ?_
  exact MW.calV (as := [.int a1, .int a2]) (rest := [.int 0, .ref 224]) hX dLa_row_5 eBp_row lLa_38 iBp_row vBp_row rfl rfl rfl rfl rfl rfl (Nat.le_of_ble_eq_true rfl) rfl k1
theorem bLa_row_8 {a1 : Int32} {a2 : Int32} {s2 : Int32} (hX : X.length = 13) (k1 : P (.inl (some (.int 0)), (hpo X mem sw (Int32.toInt64 s2) e))) : QW d mLa_row 8 (lLa_row_8 a1 a2) [.int s2, .int 0, .ref 224] (hpo X mem sw o e) P := by
  show QW d mLa_row 8 [.val (.ref 13), .val (.int a1), .val (.int a2), .val (.ref 224), .unset] [.int s2, .int 0, .ref 224] (hpo X mem sw o e) P
  refine QW.i2l dLa_row_8 ?_
  refine MW.last hX dLa_row_9 ?_
  refine QW.goto (tgt := 17) dLa_row_10 (by decide) ?_
  refine QW.iconst (v := 0) dLa_row_17 (by decide) ?_
  exact QW.iret dLa_row_18 rfl rfl k1
theorem bLa_row_13 {a1 : Int32} {a2 : Int32} {q0 : Nat} (hX : X.length = 13) (k1 : P (.inl (some (.int 1)), (hpo X mem sw o e))) : QW d mLa_row 13 (lLa_row_13 a1 a2) [.ref q0] (hpo X mem sw o e) P := by
  show QW d mLa_row 13 [.val (.ref 13), .val (.int a1), .val (.int a2), .val (.ref 224), .unset] [.ref q0] (hpo X mem sw o e) P
  refine QW.astore (ls' := [.val (.ref 13), .val (.int a1), .val (.int a2), .val (.ref 224), .val (.ref q0)]) dLa_row_13 rfl ?_
  refine QW.iconst (v := 1) dLa_row_15 (by decide) ?_
  exact QW.iret dLa_row_16 rfl rfl k1
theorem dLa_times_0 : decode mLa_times.2.1 0 = .ok (.aload_n 2, 1) := by decide +kernel
theorem dLa_times_1 : decode mLa_times.2.1 1 = .ok (.iconst 0, 1) := by decide +kernel
theorem dLa_times_2 : decode mLa_times.2.1 2 = .ok (.aload_n 0, 1) := by decide +kernel
theorem dLa_times_3 : decode mLa_times.2.1 3 = .ok (.iload_n 1, 1) := by decide +kernel
theorem dLa_times_4 : decode mLa_times.2.1 4 = .ok (.invokevirtual 44, 3) := by decide +kernel
theorem dLa_times_7 : decode mLa_times.2.1 7 = .ok (.i2l, 1) := by decide +kernel
theorem dLa_times_8 : decode mLa_times.2.1 8 = .ok (.lastore, 1) := by decide +kernel
theorem dLa_times_9 : decode mLa_times.2.1 9 = .ok (.goto 6, 3) := by decide +kernel
theorem dLa_times_12 : decode mLa_times.2.1 12 = .ok (.astore_n 3, 1) := by decide +kernel
theorem dLa_times_13 : decode mLa_times.2.1 13 = .ok (.iconst 1, 1) := by decide +kernel
theorem dLa_times_14 : decode mLa_times.2.1 14 = .ok (.ireturn, 1) := by decide +kernel
theorem dLa_times_15 : decode mLa_times.2.1 15 = .ok (.iconst 0, 1) := by decide +kernel
theorem dLa_times_16 : decode mLa_times.2.1 16 = .ok (.ireturn, 1) := by decide +kernel
def lLa_times_7 (a1 : Int32) : List Slot := [.val (.ref 13), .val (.int a1), .val (.ref 224), .unset]
def lLa_times_12 (a1 : Int32) : List Slot := [.val (.ref 13), .val (.int a1), .val (.ref 224), .unset]
theorem bLa_times_0 {a1 : Int32} (hX : X.length = 13) (k1 : QW d mBp_times 0 (qen 2 [.ref 13, .int a1]) [] (hpo X mem sw o e) (qcl d mLa_times 4 7 (lLa_times_7 a1) [.int 0, .ref 224] P)) : QW (d + 1) mLa_times 0 (qen 4 [.ref 13, .int a1, .ref 224]) [] (hpo X mem sw o e) P := by
  show QW (d + 1) mLa_times 0 [.val (.ref 13), .val (.int a1), .val (.ref 224), .unset] [] (hpo X mem sw o e) P
  refine QW.aload_n dLa_times_0 rfl rfl ?_
  refine QW.iconst (v := 0) dLa_times_1 (by decide) ?_
  refine QW.aload_n dLa_times_2 rfl rfl ?_
  refine QW.iload_n dLa_times_3 rfl rfl ?_
  exact MW.calV (as := [.int a1]) (rest := [.int 0, .ref 224]) hX dLa_times_4 eBp_times lLa_44 iBp_times vBp_times rfl rfl rfl rfl rfl rfl (Nat.le_of_ble_eq_true rfl) rfl k1
theorem bLa_times_7 {a1 : Int32} {s2 : Int32} (hX : X.length = 13) (k1 : P (.inl (some (.int 0)), (hpo X mem sw (Int32.toInt64 s2) e))) : QW d mLa_times 7 (lLa_times_7 a1) [.int s2, .int 0, .ref 224] (hpo X mem sw o e) P := by
  show QW d mLa_times 7 [.val (.ref 13), .val (.int a1), .val (.ref 224), .unset] [.int s2, .int 0, .ref 224] (hpo X mem sw o e) P
  refine QW.i2l dLa_times_7 ?_
  refine MW.last hX dLa_times_8 ?_
  refine QW.goto (tgt := 15) dLa_times_9 (by decide) ?_
  refine QW.iconst (v := 0) dLa_times_15 (by decide) ?_
  exact QW.iret dLa_times_16 rfl rfl k1
theorem bLa_times_12 {a1 : Int32} {q0 : Nat} (hX : X.length = 13) (k1 : P (.inl (some (.int 1)), (hpo X mem sw o e))) : QW d mLa_times 12 (lLa_times_12 a1) [.ref q0] (hpo X mem sw o e) P := by
  show QW d mLa_times 12 [.val (.ref 13), .val (.int a1), .val (.ref 224), .unset] [.ref q0] (hpo X mem sw o e) P
  refine QW.astore_n (ls' := [.val (.ref 13), .val (.int a1), .val (.ref 224), .val (.ref q0)]) dLa_times_12 rfl rfl ?_
  refine QW.iconst (v := 1) dLa_times_13 (by decide) ?_
  exact QW.iret dLa_times_14 rfl rfl k1
theorem dLa_alike_0 : decode mLa_alike.2.1 0 = .ok (.aload_n 3, 1) := by decide +kernel
theorem dLa_alike_1 : decode mLa_alike.2.1 1 = .ok (.iconst 0, 1) := by decide +kernel
theorem dLa_alike_2 : decode mLa_alike.2.1 2 = .ok (.aload_n 0, 1) := by decide +kernel
theorem dLa_alike_3 : decode mLa_alike.2.1 3 = .ok (.iload_n 1, 1) := by decide +kernel
theorem dLa_alike_4 : decode mLa_alike.2.1 4 = .ok (.iload_n 2, 1) := by decide +kernel
theorem dLa_alike_5 : decode mLa_alike.2.1 5 = .ok (.invokevirtual 47, 3) := by decide +kernel
theorem dLa_alike_8 : decode mLa_alike.2.1 8 = .ok (.ifCond .eq 7, 3) := by decide +kernel
theorem dLa_alike_11 : decode mLa_alike.2.1 11 = .ok (.lconst 1, 1) := by decide +kernel
theorem dLa_alike_12 : decode mLa_alike.2.1 12 = .ok (.goto 4, 3) := by decide +kernel
theorem dLa_alike_15 : decode mLa_alike.2.1 15 = .ok (.lconst 0, 1) := by decide +kernel
theorem dLa_alike_16 : decode mLa_alike.2.1 16 = .ok (.lastore, 1) := by decide +kernel
theorem dLa_alike_17 : decode mLa_alike.2.1 17 = .ok (.goto 11, 3) := by decide +kernel
theorem dLa_alike_20 : decode mLa_alike.2.1 20 = .ok (.astore 4, 2) := by decide +kernel
theorem dLa_alike_22 : decode mLa_alike.2.1 22 = .ok (.iconst 1, 1) := by decide +kernel
theorem dLa_alike_23 : decode mLa_alike.2.1 23 = .ok (.ireturn, 1) := by decide +kernel
theorem dLa_alike_24 : decode mLa_alike.2.1 24 = .ok (.astore 4, 2) := by decide +kernel
theorem dLa_alike_26 : decode mLa_alike.2.1 26 = .ok (.iconst 2, 1) := by decide +kernel
theorem dLa_alike_27 : decode mLa_alike.2.1 27 = .ok (.ireturn, 1) := by decide +kernel
theorem dLa_alike_28 : decode mLa_alike.2.1 28 = .ok (.iconst 0, 1) := by decide +kernel
theorem dLa_alike_29 : decode mLa_alike.2.1 29 = .ok (.ireturn, 1) := by decide +kernel
def lLa_alike_8 (a1 : Int32) (a2 : Int32) : List Slot := [.val (.ref 13), .val (.int a1), .val (.int a2), .val (.ref 224), .unset]
def lLa_alike_16 (a1 : Int32) (a2 : Int32) : List Slot := [.val (.ref 13), .val (.int a1), .val (.int a2), .val (.ref 224), .unset]
def lLa_alike_20 (a1 : Int32) (a2 : Int32) : List Slot := [.val (.ref 13), .val (.int a1), .val (.int a2), .val (.ref 224), .unset]
def lLa_alike_24 (a1 : Int32) (a2 : Int32) : List Slot := [.val (.ref 13), .val (.int a1), .val (.int a2), .val (.ref 224), .unset]
theorem bLa_alike_0 {a1 : Int32} {a2 : Int32} (hX : X.length = 13) (k1 : QW d mBp_alike 0 (qen 5 [.ref 13, .int a1, .int a2]) [] (hpo X mem sw o e) (qcl d mLa_alike 5 8 (lLa_alike_8 a1 a2) [.int 0, .ref 224] P)) : QW (d + 1) mLa_alike 0 (qen 5 [.ref 13, .int a1, .int a2, .ref 224]) [] (hpo X mem sw o e) P := by
  show QW (d + 1) mLa_alike 0 [.val (.ref 13), .val (.int a1), .val (.int a2), .val (.ref 224), .unset] [] (hpo X mem sw o e) P
  refine QW.aload_n dLa_alike_0 rfl rfl ?_
  refine QW.iconst (v := 0) dLa_alike_1 (by decide) ?_
  refine QW.aload_n dLa_alike_2 rfl rfl ?_
  refine QW.iload_n dLa_alike_3 rfl rfl ?_
  refine QW.iload_n dLa_alike_4 rfl rfl ?_
  exact MW.calV (as := [.int a1, .int a2]) (rest := [.int 0, .ref 224]) hX dLa_alike_5 eBp_alike lLa_47 iBp_alike vBp_alike rfl rfl rfl rfl rfl rfl (Nat.le_of_ble_eq_true rfl) rfl k1
theorem bLa_alike_8 {a1 : Int32} {a2 : Int32} {s2 : Int32} (hX : X.length = 13) (k1 : (s2 = 0) → QW d mLa_alike 16 (lLa_alike_16 a1 a2) [.long 0, .int 0, .ref 224] (hpo X mem sw o e) P) (k2 : (¬ s2 = 0) → QW d mLa_alike 16 (lLa_alike_16 a1 a2) [.long 1, .int 0, .ref 224] (hpo X mem sw o e) P) : QW d mLa_alike 8 (lLa_alike_8 a1 a2) [.int s2, .int 0, .ref 224] (hpo X mem sw o e) P := by
  show QW d mLa_alike 8 [.val (.ref 13), .val (.int a1), .val (.int a2), .val (.ref 224), .unset] [.int s2, .int 0, .ref 224] (hpo X mem sw o e) P
  refine QW.if_eq (tgt := 15) dLa_alike_8 (by decide) (fun z0 => ?_) (fun z0 => ?_)
  · refine QW.lconst (v := 0) dLa_alike_15 (by decide) ?_
    exact (k1 z0)
  · refine QW.lconst (v := 1) dLa_alike_11 (by decide) ?_
    refine QW.goto (tgt := 16) dLa_alike_12 (by decide) ?_
    exact (k2 z0)
theorem bLa_alike_16 {a1 : Int32} {a2 : Int32} {s2 : Int64} (hX : X.length = 13) (k1 : P (.inl (some (.int 0)), (hpo X mem sw s2 e))) : QW d mLa_alike 16 (lLa_alike_16 a1 a2) [.long s2, .int 0, .ref 224] (hpo X mem sw o e) P := by
  show QW d mLa_alike 16 [.val (.ref 13), .val (.int a1), .val (.int a2), .val (.ref 224), .unset] [.long s2, .int 0, .ref 224] (hpo X mem sw o e) P
  refine MW.last hX dLa_alike_16 ?_
  refine QW.goto (tgt := 28) dLa_alike_17 (by decide) ?_
  refine QW.iconst (v := 0) dLa_alike_28 (by decide) ?_
  exact QW.iret dLa_alike_29 rfl rfl k1
theorem bLa_alike_20 {a1 : Int32} {a2 : Int32} {q0 : Nat} (hX : X.length = 13) (k1 : P (.inl (some (.int 1)), (hpo X mem sw o e))) : QW d mLa_alike 20 (lLa_alike_20 a1 a2) [.ref q0] (hpo X mem sw o e) P := by
  show QW d mLa_alike 20 [.val (.ref 13), .val (.int a1), .val (.int a2), .val (.ref 224), .unset] [.ref q0] (hpo X mem sw o e) P
  refine QW.astore (ls' := [.val (.ref 13), .val (.int a1), .val (.int a2), .val (.ref 224), .val (.ref q0)]) dLa_alike_20 rfl ?_
  refine QW.iconst (v := 1) dLa_alike_22 (by decide) ?_
  exact QW.iret dLa_alike_23 rfl rfl k1
theorem bLa_alike_24 {a1 : Int32} {a2 : Int32} {q0 : Nat} (hX : X.length = 13) (k1 : P (.inl (some (.int 2)), (hpo X mem sw o e))) : QW d mLa_alike 24 (lLa_alike_24 a1 a2) [.ref q0] (hpo X mem sw o e) P := by
  show QW d mLa_alike 24 [.val (.ref 13), .val (.int a1), .val (.int a2), .val (.ref 224), .unset] [.ref q0] (hpo X mem sw o e) P
  refine QW.astore (ls' := [.val (.ref 13), .val (.int a1), .val (.int a2), .val (.ref 224), .val (.ref q0)]) dLa_alike_24 rfl ?_
  refine QW.iconst (v := 2) dLa_alike_26 (by decide) ?_
  exact QW.iret dLa_alike_27 rfl rfl k1
theorem dLa_sources_0 : decode mLa_sources.2.1 0 = .ok (.aload_n 2, 1) := by decide +kernel
theorem dLa_sources_1 : decode mLa_sources.2.1 1 = .ok (.iconst 0, 1) := by decide +kernel
theorem dLa_sources_2 : decode mLa_sources.2.1 2 = .ok (.aload_n 0, 1) := by decide +kernel
theorem dLa_sources_3 : decode mLa_sources.2.1 3 = .ok (.iload_n 1, 1) := by decide +kernel
theorem dLa_sources_4 : decode mLa_sources.2.1 4 = .ok (.invokevirtual 51, 3) := by decide +kernel
theorem dLa_sources_7 : decode mLa_sources.2.1 7 = .ok (.i2l, 1) := by decide +kernel
theorem dLa_sources_8 : decode mLa_sources.2.1 8 = .ok (.lastore, 1) := by decide +kernel
theorem dLa_sources_9 : decode mLa_sources.2.1 9 = .ok (.goto 9, 3) := by decide +kernel
theorem dLa_sources_12 : decode mLa_sources.2.1 12 = .ok (.astore_n 3, 1) := by decide +kernel
theorem dLa_sources_13 : decode mLa_sources.2.1 13 = .ok (.iconst 1, 1) := by decide +kernel
theorem dLa_sources_14 : decode mLa_sources.2.1 14 = .ok (.ireturn, 1) := by decide +kernel
theorem dLa_sources_15 : decode mLa_sources.2.1 15 = .ok (.astore_n 3, 1) := by decide +kernel
theorem dLa_sources_16 : decode mLa_sources.2.1 16 = .ok (.iconst 2, 1) := by decide +kernel
theorem dLa_sources_17 : decode mLa_sources.2.1 17 = .ok (.ireturn, 1) := by decide +kernel
theorem dLa_sources_18 : decode mLa_sources.2.1 18 = .ok (.iconst 0, 1) := by decide +kernel
theorem dLa_sources_19 : decode mLa_sources.2.1 19 = .ok (.ireturn, 1) := by decide +kernel
def lLa_sources_7 (a1 : Int32) : List Slot := [.val (.ref 13), .val (.int a1), .val (.ref 224), .unset]
def lLa_sources_12 (a1 : Int32) : List Slot := [.val (.ref 13), .val (.int a1), .val (.ref 224), .unset]
def lLa_sources_15 (a1 : Int32) : List Slot := [.val (.ref 13), .val (.int a1), .val (.ref 224), .unset]
theorem bLa_sources_0 {a1 : Int32} (hX : X.length = 13) (k1 : QW d mBp_sources 0 (qen 2 [.ref 13, .int a1]) [] (hpo X mem sw o e) (qcl d mLa_sources 4 7 (lLa_sources_7 a1) [.int 0, .ref 224] P)) : QW (d + 1) mLa_sources 0 (qen 4 [.ref 13, .int a1, .ref 224]) [] (hpo X mem sw o e) P := by
  show QW (d + 1) mLa_sources 0 [.val (.ref 13), .val (.int a1), .val (.ref 224), .unset] [] (hpo X mem sw o e) P
  refine QW.aload_n dLa_sources_0 rfl rfl ?_
  refine QW.iconst (v := 0) dLa_sources_1 (by decide) ?_
  refine QW.aload_n dLa_sources_2 rfl rfl ?_
  refine QW.iload_n dLa_sources_3 rfl rfl ?_
  exact MW.calV (as := [.int a1]) (rest := [.int 0, .ref 224]) hX dLa_sources_4 eBp_sources lLa_51 iBp_sources vBp_sources rfl rfl rfl rfl rfl rfl (Nat.le_of_ble_eq_true rfl) rfl k1
theorem bLa_sources_7 {a1 : Int32} {s2 : Int32} (hX : X.length = 13) (k1 : P (.inl (some (.int 0)), (hpo X mem sw (Int32.toInt64 s2) e))) : QW d mLa_sources 7 (lLa_sources_7 a1) [.int s2, .int 0, .ref 224] (hpo X mem sw o e) P := by
  show QW d mLa_sources 7 [.val (.ref 13), .val (.int a1), .val (.ref 224), .unset] [.int s2, .int 0, .ref 224] (hpo X mem sw o e) P
  refine QW.i2l dLa_sources_7 ?_
  refine MW.last hX dLa_sources_8 ?_
  refine QW.goto (tgt := 18) dLa_sources_9 (by decide) ?_
  refine QW.iconst (v := 0) dLa_sources_18 (by decide) ?_
  exact QW.iret dLa_sources_19 rfl rfl k1
theorem bLa_sources_12 {a1 : Int32} {q0 : Nat} (hX : X.length = 13) (k1 : P (.inl (some (.int 1)), (hpo X mem sw o e))) : QW d mLa_sources 12 (lLa_sources_12 a1) [.ref q0] (hpo X mem sw o e) P := by
  show QW d mLa_sources 12 [.val (.ref 13), .val (.int a1), .val (.ref 224), .unset] [.ref q0] (hpo X mem sw o e) P
  refine QW.astore_n (ls' := [.val (.ref 13), .val (.int a1), .val (.ref 224), .val (.ref q0)]) dLa_sources_12 rfl rfl ?_
  refine QW.iconst (v := 1) dLa_sources_13 (by decide) ?_
  exact QW.iret dLa_sources_14 rfl rfl k1
theorem bLa_sources_15 {a1 : Int32} {q0 : Nat} (hX : X.length = 13) (k1 : P (.inl (some (.int 2)), (hpo X mem sw o e))) : QW d mLa_sources 15 (lLa_sources_15 a1) [.ref q0] (hpo X mem sw o e) P := by
  show QW d mLa_sources 15 [.val (.ref 13), .val (.int a1), .val (.ref 224), .unset] [.ref q0] (hpo X mem sw o e) P
  refine QW.astore_n (ls' := [.val (.ref 13), .val (.int a1), .val (.ref 224), .val (.ref q0)]) dLa_sources_15 rfl rfl ?_
  refine QW.iconst (v := 2) dLa_sources_16 (by decide) ?_
  exact QW.iret dLa_sources_17 rfl rfl k1
theorem dLa_law_23 : decode mLa_law.2.1 23 = .ok (.iload 4, 2) := by decide +kernel
theorem dLa_law_25 : decode mLa_law.2.1 25 = .ok (.aload_n 0, 1) := by decide +kernel
theorem dLa_law_26 : decode mLa_law.2.1 26 = .ok (.arraylength, 1) := by decide +kernel
theorem dLa_law_27 : decode mLa_law.2.1 27 = .ok (.iconst 5, 1) := by decide +kernel
theorem dLa_law_28 : decode mLa_law.2.1 28 = .ok (.isub, 1) := by decide +kernel
theorem dLa_law_29 : decode mLa_law.2.1 29 = .ok (.if_icmp .gt 829, 3) := by decide +kernel
theorem dLa_law_32 : decode mLa_law.2.1 32 = .ok (.aload_n 0, 1) := by decide +kernel
theorem dLa_law_33 : decode mLa_law.2.1 33 = .ok (.iload 4, 2) := by decide +kernel
theorem dLa_law_35 : decode mLa_law.2.1 35 = .ok (.iaload, 1) := by decide +kernel
theorem dLa_law_36 : decode mLa_law.2.1 36 = .ok (.bipush 15, 2) := by decide +kernel
theorem dLa_law_38 : decode mLa_law.2.1 38 = .ok (.iand, 1) := by decide +kernel
theorem dLa_law_39 : decode mLa_law.2.1 39 = .ok (.tableswitch 813 0 14 #[73, 129, 177, 269, 349, 406, 419, 463, 476, 489, 545, 613, 669, 682, 757], 73) := by decide +kernel
theorem dLa_law_112 : decode mLa_law.2.1 112 = .ok (.aload_n 1, 1) := by decide +kernel
theorem dLa_law_113 : decode mLa_law.2.1 113 = .ok (.aload_n 0, 1) := by decide +kernel
theorem dLa_law_114 : decode mLa_law.2.1 114 = .ok (.iload 4, 2) := by decide +kernel
theorem dLa_law_116 : decode mLa_law.2.1 116 = .ok (.iconst 1, 1) := by decide +kernel
theorem dLa_law_117 : decode mLa_law.2.1 117 = .ok (.iadd, 1) := by decide +kernel
theorem dLa_law_118 : decode mLa_law.2.1 118 = .ok (.iaload, 1) := by decide +kernel
theorem dLa_law_119 : decode mLa_law.2.1 119 = .ok (.aload_n 3, 1) := by decide +kernel
theorem dLa_law_120 : decode mLa_law.2.1 120 = .ok (.invokestatic 58, 3) := by decide +kernel
theorem dLa_law_123 : decode mLa_law.2.1 123 = .ok (.istore 5, 2) := by decide +kernel
theorem dLa_law_125 : decode mLa_law.2.1 125 = .ok (.aload_n 2, 1) := by decide +kernel
theorem dLa_law_126 : decode mLa_law.2.1 126 = .ok (.aload_n 0, 1) := by decide +kernel
theorem dLa_law_127 : decode mLa_law.2.1 127 = .ok (.iload 4, 2) := by decide +kernel
theorem dLa_law_129 : decode mLa_law.2.1 129 = .ok (.iconst 1, 1) := by decide +kernel
theorem dLa_law_130 : decode mLa_law.2.1 130 = .ok (.iadd, 1) := by decide +kernel
theorem dLa_law_131 : decode mLa_law.2.1 131 = .ok (.iaload, 1) := by decide +kernel
theorem dLa_law_132 : decode mLa_law.2.1 132 = .ok (.invokevirtual 63, 3) := by decide +kernel
theorem dLa_law_135 : decode mLa_law.2.1 135 = .ok (.istore 6, 2) := by decide +kernel
theorem dLa_law_137 : decode mLa_law.2.1 137 = .ok (.aload_n 2, 1) := by decide +kernel
theorem dLa_law_138 : decode mLa_law.2.1 138 = .ok (.invokevirtual 64, 3) := by decide +kernel
theorem dLa_law_141 : decode mLa_law.2.1 141 = .ok (.iload 5, 2) := by decide +kernel
theorem dLa_law_143 : decode mLa_law.2.1 143 = .ok (.if_icmp .eq 5, 3) := by decide +kernel
theorem dLa_law_146 : decode mLa_law.2.1 146 = .ok (.iconst 0, 1) := by decide +kernel
theorem dLa_law_147 : decode mLa_law.2.1 147 = .ok (.ireturn, 1) := by decide +kernel
theorem dLa_law_148 : decode mLa_law.2.1 148 = .ok (.iload 5, 2) := by decide +kernel
theorem dLa_law_150 : decode mLa_law.2.1 150 = .ok (.ifCond .ne 15, 3) := by decide +kernel
theorem dLa_law_153 : decode mLa_law.2.1 153 = .ok (.aload_n 3, 1) := by decide +kernel
theorem dLa_law_154 : decode mLa_law.2.1 154 = .ok (.iconst 0, 1) := by decide +kernel
theorem dLa_law_155 : decode mLa_law.2.1 155 = .ok (.laload, 1) := by decide +kernel
theorem dLa_law_156 : decode mLa_law.2.1 156 = .ok (.iload 6, 2) := by decide +kernel
theorem dLa_law_158 : decode mLa_law.2.1 158 = .ok (.i2l, 1) := by decide +kernel
theorem dLa_law_159 : decode mLa_law.2.1 159 = .ok (.lcmp, 1) := by decide +kernel
theorem dLa_law_160 : decode mLa_law.2.1 160 = .ok (.ifCond .eq 5, 3) := by decide +kernel
theorem dLa_law_163 : decode mLa_law.2.1 163 = .ok (.iconst 0, 1) := by decide +kernel
theorem dLa_law_164 : decode mLa_law.2.1 164 = .ok (.ireturn, 1) := by decide +kernel
theorem dLa_law_165 : decode mLa_law.2.1 165 = .ok (.goto 687, 3) := by decide +kernel
theorem dLa_law_168 : decode mLa_law.2.1 168 = .ok (.aload_n 1, 1) := by decide +kernel
theorem dLa_law_169 : decode mLa_law.2.1 169 = .ok (.aload_n 0, 1) := by decide +kernel
theorem dLa_law_170 : decode mLa_law.2.1 170 = .ok (.iload 4, 2) := by decide +kernel
theorem dLa_law_172 : decode mLa_law.2.1 172 = .ok (.iconst 1, 1) := by decide +kernel
theorem dLa_law_173 : decode mLa_law.2.1 173 = .ok (.iadd, 1) := by decide +kernel
theorem dLa_law_174 : decode mLa_law.2.1 174 = .ok (.iaload, 1) := by decide +kernel
theorem dLa_law_175 : decode mLa_law.2.1 175 = .ok (.aload_n 0, 1) := by decide +kernel
theorem dLa_law_176 : decode mLa_law.2.1 176 = .ok (.iload 4, 2) := by decide +kernel
theorem dLa_law_178 : decode mLa_law.2.1 178 = .ok (.iconst 2, 1) := by decide +kernel
theorem dLa_law_179 : decode mLa_law.2.1 179 = .ok (.iadd, 1) := by decide +kernel
theorem dLa_law_180 : decode mLa_law.2.1 180 = .ok (.iaload, 1) := by decide +kernel
theorem dLa_law_181 : decode mLa_law.2.1 181 = .ok (.invokestatic 67, 3) := by decide +kernel
theorem dLa_law_184 : decode mLa_law.2.1 184 = .ok (.istore 5, 2) := by decide +kernel
theorem dLa_law_186 : decode mLa_law.2.1 186 = .ok (.aload_n 2, 1) := by decide +kernel
theorem dLa_law_187 : decode mLa_law.2.1 187 = .ok (.aload_n 0, 1) := by decide +kernel
theorem dLa_law_188 : decode mLa_law.2.1 188 = .ok (.iload 4, 2) := by decide +kernel
theorem dLa_law_190 : decode mLa_law.2.1 190 = .ok (.iconst 1, 1) := by decide +kernel
theorem dLa_law_191 : decode mLa_law.2.1 191 = .ok (.iadd, 1) := by decide +kernel
theorem dLa_law_192 : decode mLa_law.2.1 192 = .ok (.iaload, 1) := by decide +kernel
theorem dLa_law_193 : decode mLa_law.2.1 193 = .ok (.aload_n 0, 1) := by decide +kernel
theorem dLa_law_194 : decode mLa_law.2.1 194 = .ok (.iload 4, 2) := by decide +kernel
theorem dLa_law_196 : decode mLa_law.2.1 196 = .ok (.iconst 2, 1) := by decide +kernel
theorem dLa_law_197 : decode mLa_law.2.1 197 = .ok (.iadd, 1) := by decide +kernel
theorem dLa_law_198 : decode mLa_law.2.1 198 = .ok (.iaload, 1) := by decide +kernel
theorem dLa_law_199 : decode mLa_law.2.1 199 = .ok (.invokevirtual 70, 3) := by decide +kernel
theorem dLa_law_202 : decode mLa_law.2.1 202 = .ok (.aload_n 2, 1) := by decide +kernel
theorem dLa_law_203 : decode mLa_law.2.1 203 = .ok (.invokevirtual 64, 3) := by decide +kernel
theorem dLa_law_206 : decode mLa_law.2.1 206 = .ok (.iload 5, 2) := by decide +kernel
theorem dLa_law_208 : decode mLa_law.2.1 208 = .ok (.if_icmp .eq 5, 3) := by decide +kernel
theorem dLa_law_211 : decode mLa_law.2.1 211 = .ok (.iconst 0, 1) := by decide +kernel
theorem dLa_law_212 : decode mLa_law.2.1 212 = .ok (.ireturn, 1) := by decide +kernel
theorem dLa_law_213 : decode mLa_law.2.1 213 = .ok (.goto 639, 3) := by decide +kernel
theorem dLa_law_216 : decode mLa_law.2.1 216 = .ok (.aload_n 1, 1) := by decide +kernel
theorem dLa_law_217 : decode mLa_law.2.1 217 = .ok (.aload_n 0, 1) := by decide +kernel
theorem dLa_law_218 : decode mLa_law.2.1 218 = .ok (.iload 4, 2) := by decide +kernel
theorem dLa_law_220 : decode mLa_law.2.1 220 = .ok (.iconst 1, 1) := by decide +kernel
theorem dLa_law_221 : decode mLa_law.2.1 221 = .ok (.iadd, 1) := by decide +kernel
theorem dLa_law_222 : decode mLa_law.2.1 222 = .ok (.iaload, 1) := by decide +kernel
theorem dLa_law_223 : decode mLa_law.2.1 223 = .ok (.aload_n 0, 1) := by decide +kernel
theorem dLa_law_224 : decode mLa_law.2.1 224 = .ok (.iload 4, 2) := by decide +kernel
theorem dLa_law_226 : decode mLa_law.2.1 226 = .ok (.iconst 2, 1) := by decide +kernel
theorem dLa_law_227 : decode mLa_law.2.1 227 = .ok (.iadd, 1) := by decide +kernel
theorem dLa_law_228 : decode mLa_law.2.1 228 = .ok (.iaload, 1) := by decide +kernel
theorem dLa_law_229 : decode mLa_law.2.1 229 = .ok (.aload_n 0, 1) := by decide +kernel
theorem dLa_law_230 : decode mLa_law.2.1 230 = .ok (.iload 4, 2) := by decide +kernel
theorem dLa_law_232 : decode mLa_law.2.1 232 = .ok (.iconst 3, 1) := by decide +kernel
theorem dLa_law_233 : decode mLa_law.2.1 233 = .ok (.iadd, 1) := by decide +kernel
theorem dLa_law_234 : decode mLa_law.2.1 234 = .ok (.iaload, 1) := by decide +kernel
theorem dLa_law_235 : decode mLa_law.2.1 235 = .ok (.aload_n 0, 1) := by decide +kernel
theorem dLa_law_236 : decode mLa_law.2.1 236 = .ok (.iload 4, 2) := by decide +kernel
theorem dLa_law_238 : decode mLa_law.2.1 238 = .ok (.iconst 4, 1) := by decide +kernel
theorem dLa_law_239 : decode mLa_law.2.1 239 = .ok (.iadd, 1) := by decide +kernel
theorem dLa_law_240 : decode mLa_law.2.1 240 = .ok (.iaload, 1) := by decide +kernel
theorem dLa_law_241 : decode mLa_law.2.1 241 = .ok (.aload_n 3, 1) := by decide +kernel
theorem dLa_law_242 : decode mLa_law.2.1 242 = .ok (.invokestatic 71, 3) := by decide +kernel
theorem dLa_law_245 : decode mLa_law.2.1 245 = .ok (.istore 5, 2) := by decide +kernel
theorem dLa_law_247 : decode mLa_law.2.1 247 = .ok (.aload_n 2, 1) := by decide +kernel
theorem dLa_law_248 : decode mLa_law.2.1 248 = .ok (.aload_n 0, 1) := by decide +kernel
theorem dLa_law_249 : decode mLa_law.2.1 249 = .ok (.iload 4, 2) := by decide +kernel
theorem dLa_law_251 : decode mLa_law.2.1 251 = .ok (.iconst 1, 1) := by decide +kernel
theorem dLa_law_252 : decode mLa_law.2.1 252 = .ok (.iadd, 1) := by decide +kernel
theorem dLa_law_253 : decode mLa_law.2.1 253 = .ok (.iaload, 1) := by decide +kernel
theorem dLa_law_254 : decode mLa_law.2.1 254 = .ok (.aload_n 0, 1) := by decide +kernel
theorem dLa_law_255 : decode mLa_law.2.1 255 = .ok (.iload 4, 2) := by decide +kernel
theorem dLa_law_257 : decode mLa_law.2.1 257 = .ok (.iconst 2, 1) := by decide +kernel
theorem dLa_law_258 : decode mLa_law.2.1 258 = .ok (.iadd, 1) := by decide +kernel
theorem dLa_law_259 : decode mLa_law.2.1 259 = .ok (.iaload, 1) := by decide +kernel
theorem dLa_law_260 : decode mLa_law.2.1 260 = .ok (.aload_n 0, 1) := by decide +kernel
theorem dLa_law_261 : decode mLa_law.2.1 261 = .ok (.iload 4, 2) := by decide +kernel
theorem dLa_law_263 : decode mLa_law.2.1 263 = .ok (.iconst 3, 1) := by decide +kernel
theorem dLa_law_264 : decode mLa_law.2.1 264 = .ok (.iadd, 1) := by decide +kernel
theorem dLa_law_265 : decode mLa_law.2.1 265 = .ok (.iaload, 1) := by decide +kernel
theorem dLa_law_266 : decode mLa_law.2.1 266 = .ok (.aload_n 0, 1) := by decide +kernel
theorem dLa_law_267 : decode mLa_law.2.1 267 = .ok (.iload 4, 2) := by decide +kernel
theorem dLa_law_269 : decode mLa_law.2.1 269 = .ok (.iconst 4, 1) := by decide +kernel
theorem dLa_law_270 : decode mLa_law.2.1 270 = .ok (.iadd, 1) := by decide +kernel
theorem dLa_law_271 : decode mLa_law.2.1 271 = .ok (.iaload, 1) := by decide +kernel
theorem dLa_law_272 : decode mLa_law.2.1 272 = .ok (.invokevirtual 74, 3) := by decide +kernel
theorem dLa_law_275 : decode mLa_law.2.1 275 = .ok (.istore 6, 2) := by decide +kernel
theorem dLa_law_277 : decode mLa_law.2.1 277 = .ok (.aload_n 2, 1) := by decide +kernel
theorem dLa_law_278 : decode mLa_law.2.1 278 = .ok (.invokevirtual 64, 3) := by decide +kernel
theorem dLa_law_281 : decode mLa_law.2.1 281 = .ok (.iload 5, 2) := by decide +kernel
theorem dLa_law_283 : decode mLa_law.2.1 283 = .ok (.if_icmp .eq 5, 3) := by decide +kernel
theorem dLa_law_286 : decode mLa_law.2.1 286 = .ok (.iconst 0, 1) := by decide +kernel
theorem dLa_law_287 : decode mLa_law.2.1 287 = .ok (.ireturn, 1) := by decide +kernel
theorem dLa_law_288 : decode mLa_law.2.1 288 = .ok (.iload 5, 2) := by decide +kernel
theorem dLa_law_290 : decode mLa_law.2.1 290 = .ok (.ifCond .ne 15, 3) := by decide +kernel
theorem dLa_law_293 : decode mLa_law.2.1 293 = .ok (.aload_n 3, 1) := by decide +kernel
theorem dLa_law_294 : decode mLa_law.2.1 294 = .ok (.iconst 0, 1) := by decide +kernel
theorem dLa_law_295 : decode mLa_law.2.1 295 = .ok (.laload, 1) := by decide +kernel
theorem dLa_law_296 : decode mLa_law.2.1 296 = .ok (.iload 6, 2) := by decide +kernel
theorem dLa_law_298 : decode mLa_law.2.1 298 = .ok (.i2l, 1) := by decide +kernel
theorem dLa_law_299 : decode mLa_law.2.1 299 = .ok (.lcmp, 1) := by decide +kernel
theorem dLa_law_300 : decode mLa_law.2.1 300 = .ok (.ifCond .eq 5, 3) := by decide +kernel
theorem dLa_law_303 : decode mLa_law.2.1 303 = .ok (.iconst 0, 1) := by decide +kernel
theorem dLa_law_304 : decode mLa_law.2.1 304 = .ok (.ireturn, 1) := by decide +kernel
theorem dLa_law_305 : decode mLa_law.2.1 305 = .ok (.goto 547, 3) := by decide +kernel
theorem dLa_law_308 : decode mLa_law.2.1 308 = .ok (.aload_n 1, 1) := by decide +kernel
theorem dLa_law_309 : decode mLa_law.2.1 309 = .ok (.aload_n 0, 1) := by decide +kernel
theorem dLa_law_310 : decode mLa_law.2.1 310 = .ok (.iload 4, 2) := by decide +kernel
theorem dLa_law_312 : decode mLa_law.2.1 312 = .ok (.iconst 1, 1) := by decide +kernel
theorem dLa_law_313 : decode mLa_law.2.1 313 = .ok (.iadd, 1) := by decide +kernel
theorem dLa_law_314 : decode mLa_law.2.1 314 = .ok (.iaload, 1) := by decide +kernel
theorem dLa_law_315 : decode mLa_law.2.1 315 = .ok (.aload_n 0, 1) := by decide +kernel
theorem dLa_law_316 : decode mLa_law.2.1 316 = .ok (.iload 4, 2) := by decide +kernel
theorem dLa_law_318 : decode mLa_law.2.1 318 = .ok (.iconst 2, 1) := by decide +kernel
theorem dLa_law_319 : decode mLa_law.2.1 319 = .ok (.iadd, 1) := by decide +kernel
theorem dLa_law_320 : decode mLa_law.2.1 320 = .ok (.iaload, 1) := by decide +kernel
theorem dLa_law_321 : decode mLa_law.2.1 321 = .ok (.aload_n 0, 1) := by decide +kernel
theorem dLa_law_322 : decode mLa_law.2.1 322 = .ok (.iload 4, 2) := by decide +kernel
theorem dLa_law_324 : decode mLa_law.2.1 324 = .ok (.iconst 3, 1) := by decide +kernel
theorem dLa_law_325 : decode mLa_law.2.1 325 = .ok (.iadd, 1) := by decide +kernel
theorem dLa_law_326 : decode mLa_law.2.1 326 = .ok (.iaload, 1) := by decide +kernel
theorem dLa_law_327 : decode mLa_law.2.1 327 = .ok (.aload_n 3, 1) := by decide +kernel
theorem dLa_law_328 : decode mLa_law.2.1 328 = .ok (.invokestatic 75, 3) := by decide +kernel
theorem dLa_law_331 : decode mLa_law.2.1 331 = .ok (.istore 5, 2) := by decide +kernel
theorem dLa_law_333 : decode mLa_law.2.1 333 = .ok (.aload_n 2, 1) := by decide +kernel
theorem dLa_law_334 : decode mLa_law.2.1 334 = .ok (.aload_n 0, 1) := by decide +kernel
theorem dLa_law_335 : decode mLa_law.2.1 335 = .ok (.iload 4, 2) := by decide +kernel
theorem dLa_law_337 : decode mLa_law.2.1 337 = .ok (.iconst 1, 1) := by decide +kernel
theorem dLa_law_338 : decode mLa_law.2.1 338 = .ok (.iadd, 1) := by decide +kernel
theorem dLa_law_339 : decode mLa_law.2.1 339 = .ok (.iaload, 1) := by decide +kernel
theorem dLa_law_340 : decode mLa_law.2.1 340 = .ok (.aload_n 0, 1) := by decide +kernel
theorem dLa_law_341 : decode mLa_law.2.1 341 = .ok (.iload 4, 2) := by decide +kernel
theorem dLa_law_343 : decode mLa_law.2.1 343 = .ok (.iconst 2, 1) := by decide +kernel
theorem dLa_law_344 : decode mLa_law.2.1 344 = .ok (.iadd, 1) := by decide +kernel
theorem dLa_law_345 : decode mLa_law.2.1 345 = .ok (.iaload, 1) := by decide +kernel
theorem dLa_law_346 : decode mLa_law.2.1 346 = .ok (.aload_n 0, 1) := by decide +kernel
theorem dLa_law_347 : decode mLa_law.2.1 347 = .ok (.iload 4, 2) := by decide +kernel
theorem dLa_law_349 : decode mLa_law.2.1 349 = .ok (.iconst 3, 1) := by decide +kernel
theorem dLa_law_350 : decode mLa_law.2.1 350 = .ok (.iadd, 1) := by decide +kernel
theorem dLa_law_351 : decode mLa_law.2.1 351 = .ok (.iaload, 1) := by decide +kernel
theorem dLa_law_352 : decode mLa_law.2.1 352 = .ok (.invokevirtual 78, 3) := by decide +kernel
theorem dLa_law_355 : decode mLa_law.2.1 355 = .ok (.istore 6, 2) := by decide +kernel
theorem dLa_law_357 : decode mLa_law.2.1 357 = .ok (.aload_n 2, 1) := by decide +kernel
theorem dLa_law_358 : decode mLa_law.2.1 358 = .ok (.invokevirtual 64, 3) := by decide +kernel
theorem dLa_law_361 : decode mLa_law.2.1 361 = .ok (.iload 5, 2) := by decide +kernel
theorem dLa_law_363 : decode mLa_law.2.1 363 = .ok (.if_icmp .eq 5, 3) := by decide +kernel
theorem dLa_law_366 : decode mLa_law.2.1 366 = .ok (.iconst 0, 1) := by decide +kernel
theorem dLa_law_367 : decode mLa_law.2.1 367 = .ok (.ireturn, 1) := by decide +kernel
theorem dLa_law_368 : decode mLa_law.2.1 368 = .ok (.iload 5, 2) := by decide +kernel
theorem dLa_law_370 : decode mLa_law.2.1 370 = .ok (.ifCond .ne 15, 3) := by decide +kernel
theorem dLa_law_373 : decode mLa_law.2.1 373 = .ok (.aload_n 3, 1) := by decide +kernel
theorem dLa_law_374 : decode mLa_law.2.1 374 = .ok (.iconst 0, 1) := by decide +kernel
theorem dLa_law_375 : decode mLa_law.2.1 375 = .ok (.laload, 1) := by decide +kernel
theorem dLa_law_376 : decode mLa_law.2.1 376 = .ok (.iload 6, 2) := by decide +kernel
theorem dLa_law_378 : decode mLa_law.2.1 378 = .ok (.i2l, 1) := by decide +kernel
theorem dLa_law_379 : decode mLa_law.2.1 379 = .ok (.lcmp, 1) := by decide +kernel
theorem dLa_law_380 : decode mLa_law.2.1 380 = .ok (.ifCond .eq 5, 3) := by decide +kernel
theorem dLa_law_383 : decode mLa_law.2.1 383 = .ok (.iconst 0, 1) := by decide +kernel
theorem dLa_law_384 : decode mLa_law.2.1 384 = .ok (.ireturn, 1) := by decide +kernel
theorem dLa_law_385 : decode mLa_law.2.1 385 = .ok (.goto 467, 3) := by decide +kernel
theorem dLa_law_388 : decode mLa_law.2.1 388 = .ok (.aload_n 1, 1) := by decide +kernel
theorem dLa_law_389 : decode mLa_law.2.1 389 = .ok (.aload_n 0, 1) := by decide +kernel
theorem dLa_law_390 : decode mLa_law.2.1 390 = .ok (.iload 4, 2) := by decide +kernel
theorem dLa_law_392 : decode mLa_law.2.1 392 = .ok (.iconst 1, 1) := by decide +kernel
theorem dLa_law_393 : decode mLa_law.2.1 393 = .ok (.iadd, 1) := by decide +kernel
theorem dLa_law_394 : decode mLa_law.2.1 394 = .ok (.iaload, 1) := by decide +kernel
theorem dLa_law_395 : decode mLa_law.2.1 395 = .ok (.i2l, 1) := by decide +kernel
theorem dLa_law_396 : decode mLa_law.2.1 396 = .ok (.bipush 32, 2) := by decide +kernel
theorem dLa_law_398 : decode mLa_law.2.1 398 = .ok (.lshl, 1) := by decide +kernel
theorem dLa_law_399 : decode mLa_law.2.1 399 = .ok (.aload_n 0, 1) := by decide +kernel
theorem dLa_law_400 : decode mLa_law.2.1 400 = .ok (.iload 4, 2) := by decide +kernel
theorem dLa_law_402 : decode mLa_law.2.1 402 = .ok (.iconst 2, 1) := by decide +kernel
theorem dLa_law_403 : decode mLa_law.2.1 403 = .ok (.iadd, 1) := by decide +kernel
theorem dLa_law_404 : decode mLa_law.2.1 404 = .ok (.iaload, 1) := by decide +kernel
theorem dLa_law_405 : decode mLa_law.2.1 405 = .ok (.i2l, 1) := by decide +kernel
theorem dLa_law_406 : decode mLa_law.2.1 406 = .ok (.ldc2_w 79, 3) := by decide +kernel
theorem dLa_law_409 : decode mLa_law.2.1 409 = .ok (.land, 1) := by decide +kernel
theorem dLa_law_410 : decode mLa_law.2.1 410 = .ok (.lor, 1) := by decide +kernel
theorem dLa_law_411 : decode mLa_law.2.1 411 = .ok (.invokevirtual 81, 3) := by decide +kernel
theorem dLa_law_414 : decode mLa_law.2.1 414 = .ok (.aload_n 2, 1) := by decide +kernel
theorem dLa_law_415 : decode mLa_law.2.1 415 = .ok (.aload_n 0, 1) := by decide +kernel
theorem dLa_law_416 : decode mLa_law.2.1 416 = .ok (.iload 4, 2) := by decide +kernel
theorem dLa_law_418 : decode mLa_law.2.1 418 = .ok (.iconst 1, 1) := by decide +kernel
theorem dLa_law_419 : decode mLa_law.2.1 419 = .ok (.iadd, 1) := by decide +kernel
theorem dLa_law_420 : decode mLa_law.2.1 420 = .ok (.iaload, 1) := by decide +kernel
theorem dLa_law_421 : decode mLa_law.2.1 421 = .ok (.i2l, 1) := by decide +kernel
theorem dLa_law_422 : decode mLa_law.2.1 422 = .ok (.bipush 32, 2) := by decide +kernel
theorem dLa_law_424 : decode mLa_law.2.1 424 = .ok (.lshl, 1) := by decide +kernel
theorem dLa_law_425 : decode mLa_law.2.1 425 = .ok (.aload_n 0, 1) := by decide +kernel
theorem dLa_law_426 : decode mLa_law.2.1 426 = .ok (.iload 4, 2) := by decide +kernel
theorem dLa_law_428 : decode mLa_law.2.1 428 = .ok (.iconst 2, 1) := by decide +kernel
theorem dLa_law_429 : decode mLa_law.2.1 429 = .ok (.iadd, 1) := by decide +kernel
theorem dLa_law_430 : decode mLa_law.2.1 430 = .ok (.iaload, 1) := by decide +kernel
theorem dLa_law_431 : decode mLa_law.2.1 431 = .ok (.i2l, 1) := by decide +kernel
theorem dLa_law_432 : decode mLa_law.2.1 432 = .ok (.ldc2_w 79, 3) := by decide +kernel
theorem dLa_law_435 : decode mLa_law.2.1 435 = .ok (.land, 1) := by decide +kernel
theorem dLa_law_436 : decode mLa_law.2.1 436 = .ok (.lor, 1) := by decide +kernel
theorem dLa_law_437 : decode mLa_law.2.1 437 = .ok (.invokevirtual 85, 3) := by decide +kernel
theorem dLa_law_440 : decode mLa_law.2.1 440 = .ok (.if_icmp .eq 412, 3) := by decide +kernel
theorem dLa_law_443 : decode mLa_law.2.1 443 = .ok (.iconst 0, 1) := by decide +kernel
theorem dLa_law_444 : decode mLa_law.2.1 444 = .ok (.ireturn, 1) := by decide +kernel
theorem dLa_law_445 : decode mLa_law.2.1 445 = .ok (.aload_n 1, 1) := by decide +kernel
theorem dLa_law_446 : decode mLa_law.2.1 446 = .ok (.invokevirtual 86, 3) := by decide +kernel
theorem dLa_law_449 : decode mLa_law.2.1 449 = .ok (.aload_n 2, 1) := by decide +kernel
theorem dLa_law_450 : decode mLa_law.2.1 450 = .ok (.invokevirtual 89, 3) := by decide +kernel
theorem dLa_law_453 : decode mLa_law.2.1 453 = .ok (.if_icmp .eq 399, 3) := by decide +kernel
theorem dLa_law_456 : decode mLa_law.2.1 456 = .ok (.iconst 0, 1) := by decide +kernel
theorem dLa_law_457 : decode mLa_law.2.1 457 = .ok (.ireturn, 1) := by decide +kernel
theorem dLa_law_458 : decode mLa_law.2.1 458 = .ok (.aload_n 1, 1) := by decide +kernel
theorem dLa_law_459 : decode mLa_law.2.1 459 = .ok (.aload_n 3, 1) := by decide +kernel
theorem dLa_law_460 : decode mLa_law.2.1 460 = .ok (.invokestatic 90, 3) := by decide +kernel
theorem dLa_law_463 : decode mLa_law.2.1 463 = .ok (.istore 5, 2) := by decide +kernel
theorem dLa_law_465 : decode mLa_law.2.1 465 = .ok (.aload_n 2, 1) := by decide +kernel
theorem dLa_law_466 : decode mLa_law.2.1 466 = .ok (.invokevirtual 93, 3) := by decide +kernel
theorem dLa_law_469 : decode mLa_law.2.1 469 = .ok (.istore 6, 2) := by decide +kernel
theorem dLa_law_471 : decode mLa_law.2.1 471 = .ok (.aload_n 2, 1) := by decide +kernel
theorem dLa_law_472 : decode mLa_law.2.1 472 = .ok (.invokevirtual 64, 3) := by decide +kernel
theorem dLa_law_475 : decode mLa_law.2.1 475 = .ok (.iload 5, 2) := by decide +kernel
theorem dLa_law_477 : decode mLa_law.2.1 477 = .ok (.if_icmp .eq 5, 3) := by decide +kernel
theorem dLa_law_480 : decode mLa_law.2.1 480 = .ok (.iconst 0, 1) := by decide +kernel
theorem dLa_law_481 : decode mLa_law.2.1 481 = .ok (.ireturn, 1) := by decide +kernel
theorem dLa_law_482 : decode mLa_law.2.1 482 = .ok (.iload 5, 2) := by decide +kernel
theorem dLa_law_484 : decode mLa_law.2.1 484 = .ok (.ifCond .ne 15, 3) := by decide +kernel
theorem dLa_law_487 : decode mLa_law.2.1 487 = .ok (.aload_n 3, 1) := by decide +kernel
theorem dLa_law_488 : decode mLa_law.2.1 488 = .ok (.iconst 0, 1) := by decide +kernel
theorem dLa_law_489 : decode mLa_law.2.1 489 = .ok (.laload, 1) := by decide +kernel
theorem dLa_law_490 : decode mLa_law.2.1 490 = .ok (.iload 6, 2) := by decide +kernel
theorem dLa_law_492 : decode mLa_law.2.1 492 = .ok (.i2l, 1) := by decide +kernel
theorem dLa_law_493 : decode mLa_law.2.1 493 = .ok (.lcmp, 1) := by decide +kernel
theorem dLa_law_494 : decode mLa_law.2.1 494 = .ok (.ifCond .eq 5, 3) := by decide +kernel
theorem dLa_law_497 : decode mLa_law.2.1 497 = .ok (.iconst 0, 1) := by decide +kernel
theorem dLa_law_498 : decode mLa_law.2.1 498 = .ok (.ireturn, 1) := by decide +kernel
theorem dLa_law_499 : decode mLa_law.2.1 499 = .ok (.goto 353, 3) := by decide +kernel
theorem dLa_law_502 : decode mLa_law.2.1 502 = .ok (.aload_n 1, 1) := by decide +kernel
theorem dLa_law_503 : decode mLa_law.2.1 503 = .ok (.invokevirtual 94, 3) := by decide +kernel
theorem dLa_law_506 : decode mLa_law.2.1 506 = .ok (.aload_n 2, 1) := by decide +kernel
theorem dLa_law_507 : decode mLa_law.2.1 507 = .ok (.invokevirtual 97, 3) := by decide +kernel
theorem dLa_law_510 : decode mLa_law.2.1 510 = .ok (.if_icmp .eq 342, 3) := by decide +kernel
theorem dLa_law_513 : decode mLa_law.2.1 513 = .ok (.iconst 0, 1) := by decide +kernel
theorem dLa_law_514 : decode mLa_law.2.1 514 = .ok (.ireturn, 1) := by decide +kernel
theorem dLa_law_515 : decode mLa_law.2.1 515 = .ok (.aload_n 1, 1) := by decide +kernel
theorem dLa_law_516 : decode mLa_law.2.1 516 = .ok (.invokevirtual 98, 3) := by decide +kernel
theorem dLa_law_519 : decode mLa_law.2.1 519 = .ok (.aload_n 2, 1) := by decide +kernel
theorem dLa_law_520 : decode mLa_law.2.1 520 = .ok (.invokevirtual 101, 3) := by decide +kernel
theorem dLa_law_523 : decode mLa_law.2.1 523 = .ok (.if_icmp .eq 329, 3) := by decide +kernel
theorem dLa_law_526 : decode mLa_law.2.1 526 = .ok (.iconst 0, 1) := by decide +kernel
theorem dLa_law_527 : decode mLa_law.2.1 527 = .ok (.ireturn, 1) := by decide +kernel
theorem dLa_law_528 : decode mLa_law.2.1 528 = .ok (.aload_n 1, 1) := by decide +kernel
theorem dLa_law_529 : decode mLa_law.2.1 529 = .ok (.aload_n 0, 1) := by decide +kernel
theorem dLa_law_530 : decode mLa_law.2.1 530 = .ok (.iload 4, 2) := by decide +kernel
theorem dLa_law_532 : decode mLa_law.2.1 532 = .ok (.iconst 1, 1) := by decide +kernel
theorem dLa_law_533 : decode mLa_law.2.1 533 = .ok (.iadd, 1) := by decide +kernel
theorem dLa_law_534 : decode mLa_law.2.1 534 = .ok (.iaload, 1) := by decide +kernel
theorem dLa_law_535 : decode mLa_law.2.1 535 = .ok (.aload_n 3, 1) := by decide +kernel
theorem dLa_law_536 : decode mLa_law.2.1 536 = .ok (.invokestatic 102, 3) := by decide +kernel
theorem dLa_law_539 : decode mLa_law.2.1 539 = .ok (.istore 5, 2) := by decide +kernel
theorem dLa_law_541 : decode mLa_law.2.1 541 = .ok (.aload_n 2, 1) := by decide +kernel
theorem dLa_law_542 : decode mLa_law.2.1 542 = .ok (.aload_n 0, 1) := by decide +kernel
theorem dLa_law_543 : decode mLa_law.2.1 543 = .ok (.iload 4, 2) := by decide +kernel
theorem dLa_law_545 : decode mLa_law.2.1 545 = .ok (.iconst 1, 1) := by decide +kernel
theorem dLa_law_546 : decode mLa_law.2.1 546 = .ok (.iadd, 1) := by decide +kernel
theorem dLa_law_547 : decode mLa_law.2.1 547 = .ok (.iaload, 1) := by decide +kernel
theorem dLa_law_548 : decode mLa_law.2.1 548 = .ok (.invokevirtual 104, 3) := by decide +kernel
theorem dLa_law_551 : decode mLa_law.2.1 551 = .ok (.istore 6, 2) := by decide +kernel
theorem dLa_law_553 : decode mLa_law.2.1 553 = .ok (.aload_n 2, 1) := by decide +kernel
theorem dLa_law_554 : decode mLa_law.2.1 554 = .ok (.invokevirtual 64, 3) := by decide +kernel
theorem dLa_law_557 : decode mLa_law.2.1 557 = .ok (.iload 5, 2) := by decide +kernel
theorem dLa_law_559 : decode mLa_law.2.1 559 = .ok (.if_icmp .eq 5, 3) := by decide +kernel
theorem dLa_law_562 : decode mLa_law.2.1 562 = .ok (.iconst 0, 1) := by decide +kernel
theorem dLa_law_563 : decode mLa_law.2.1 563 = .ok (.ireturn, 1) := by decide +kernel
theorem dLa_law_564 : decode mLa_law.2.1 564 = .ok (.iload 5, 2) := by decide +kernel
theorem dLa_law_566 : decode mLa_law.2.1 566 = .ok (.ifCond .ne 15, 3) := by decide +kernel
theorem dLa_law_569 : decode mLa_law.2.1 569 = .ok (.aload_n 3, 1) := by decide +kernel
theorem dLa_law_570 : decode mLa_law.2.1 570 = .ok (.iconst 0, 1) := by decide +kernel
theorem dLa_law_571 : decode mLa_law.2.1 571 = .ok (.laload, 1) := by decide +kernel
theorem dLa_law_572 : decode mLa_law.2.1 572 = .ok (.iload 6, 2) := by decide +kernel
theorem dLa_law_574 : decode mLa_law.2.1 574 = .ok (.i2l, 1) := by decide +kernel
theorem dLa_law_575 : decode mLa_law.2.1 575 = .ok (.lcmp, 1) := by decide +kernel
theorem dLa_law_576 : decode mLa_law.2.1 576 = .ok (.ifCond .eq 5, 3) := by decide +kernel
theorem dLa_law_579 : decode mLa_law.2.1 579 = .ok (.iconst 0, 1) := by decide +kernel
theorem dLa_law_580 : decode mLa_law.2.1 580 = .ok (.ireturn, 1) := by decide +kernel
theorem dLa_law_581 : decode mLa_law.2.1 581 = .ok (.goto 271, 3) := by decide +kernel
theorem dLa_law_584 : decode mLa_law.2.1 584 = .ok (.aload_n 1, 1) := by decide +kernel
theorem dLa_law_585 : decode mLa_law.2.1 585 = .ok (.aload_n 0, 1) := by decide +kernel
theorem dLa_law_586 : decode mLa_law.2.1 586 = .ok (.iload 4, 2) := by decide +kernel
theorem dLa_law_588 : decode mLa_law.2.1 588 = .ok (.iconst 1, 1) := by decide +kernel
theorem dLa_law_589 : decode mLa_law.2.1 589 = .ok (.iadd, 1) := by decide +kernel
theorem dLa_law_590 : decode mLa_law.2.1 590 = .ok (.iaload, 1) := by decide +kernel
theorem dLa_law_591 : decode mLa_law.2.1 591 = .ok (.aload_n 0, 1) := by decide +kernel
theorem dLa_law_592 : decode mLa_law.2.1 592 = .ok (.iload 4, 2) := by decide +kernel
theorem dLa_law_594 : decode mLa_law.2.1 594 = .ok (.iconst 2, 1) := by decide +kernel
theorem dLa_law_595 : decode mLa_law.2.1 595 = .ok (.iadd, 1) := by decide +kernel
theorem dLa_law_596 : decode mLa_law.2.1 596 = .ok (.iaload, 1) := by decide +kernel
theorem dLa_law_597 : decode mLa_law.2.1 597 = .ok (.aload_n 3, 1) := by decide +kernel
theorem dLa_law_598 : decode mLa_law.2.1 598 = .ok (.invokestatic 105, 3) := by decide +kernel
theorem dLa_law_601 : decode mLa_law.2.1 601 = .ok (.istore 5, 2) := by decide +kernel
theorem dLa_law_603 : decode mLa_law.2.1 603 = .ok (.aload_n 2, 1) := by decide +kernel
theorem dLa_law_604 : decode mLa_law.2.1 604 = .ok (.aload_n 0, 1) := by decide +kernel
theorem dLa_law_605 : decode mLa_law.2.1 605 = .ok (.iload 4, 2) := by decide +kernel
theorem dLa_law_607 : decode mLa_law.2.1 607 = .ok (.iconst 1, 1) := by decide +kernel
theorem dLa_law_608 : decode mLa_law.2.1 608 = .ok (.iadd, 1) := by decide +kernel
theorem dLa_law_609 : decode mLa_law.2.1 609 = .ok (.iaload, 1) := by decide +kernel
theorem dLa_law_610 : decode mLa_law.2.1 610 = .ok (.aload_n 0, 1) := by decide +kernel
theorem dLa_law_611 : decode mLa_law.2.1 611 = .ok (.iload 4, 2) := by decide +kernel
theorem dLa_law_613 : decode mLa_law.2.1 613 = .ok (.iconst 2, 1) := by decide +kernel
theorem dLa_law_614 : decode mLa_law.2.1 614 = .ok (.iadd, 1) := by decide +kernel
theorem dLa_law_615 : decode mLa_law.2.1 615 = .ok (.iaload, 1) := by decide +kernel
theorem dLa_law_616 : decode mLa_law.2.1 616 = .ok (.invokevirtual 108, 3) := by decide +kernel
theorem dLa_law_619 : decode mLa_law.2.1 619 = .ok (.istore 6, 2) := by decide +kernel
theorem dLa_law_621 : decode mLa_law.2.1 621 = .ok (.aload_n 2, 1) := by decide +kernel
theorem dLa_law_622 : decode mLa_law.2.1 622 = .ok (.invokevirtual 64, 3) := by decide +kernel
theorem dLa_law_625 : decode mLa_law.2.1 625 = .ok (.iload 5, 2) := by decide +kernel
theorem dLa_law_627 : decode mLa_law.2.1 627 = .ok (.if_icmp .eq 5, 3) := by decide +kernel
theorem dLa_law_630 : decode mLa_law.2.1 630 = .ok (.iconst 0, 1) := by decide +kernel
theorem dLa_law_631 : decode mLa_law.2.1 631 = .ok (.ireturn, 1) := by decide +kernel
theorem dLa_law_632 : decode mLa_law.2.1 632 = .ok (.iload 5, 2) := by decide +kernel
theorem dLa_law_634 : decode mLa_law.2.1 634 = .ok (.ifCond .ne 15, 3) := by decide +kernel
theorem dLa_law_637 : decode mLa_law.2.1 637 = .ok (.aload_n 3, 1) := by decide +kernel
theorem dLa_law_638 : decode mLa_law.2.1 638 = .ok (.iconst 0, 1) := by decide +kernel
theorem dLa_law_639 : decode mLa_law.2.1 639 = .ok (.laload, 1) := by decide +kernel
theorem dLa_law_640 : decode mLa_law.2.1 640 = .ok (.iload 6, 2) := by decide +kernel
theorem dLa_law_642 : decode mLa_law.2.1 642 = .ok (.i2l, 1) := by decide +kernel
theorem dLa_law_643 : decode mLa_law.2.1 643 = .ok (.lcmp, 1) := by decide +kernel
theorem dLa_law_644 : decode mLa_law.2.1 644 = .ok (.ifCond .eq 5, 3) := by decide +kernel
theorem dLa_law_647 : decode mLa_law.2.1 647 = .ok (.iconst 0, 1) := by decide +kernel
theorem dLa_law_648 : decode mLa_law.2.1 648 = .ok (.ireturn, 1) := by decide +kernel
theorem dLa_law_649 : decode mLa_law.2.1 649 = .ok (.goto 203, 3) := by decide +kernel
theorem dLa_law_652 : decode mLa_law.2.1 652 = .ok (.aload_n 1, 1) := by decide +kernel
theorem dLa_law_653 : decode mLa_law.2.1 653 = .ok (.aload_n 0, 1) := by decide +kernel
theorem dLa_law_654 : decode mLa_law.2.1 654 = .ok (.iload 4, 2) := by decide +kernel
theorem dLa_law_656 : decode mLa_law.2.1 656 = .ok (.iconst 1, 1) := by decide +kernel
theorem dLa_law_657 : decode mLa_law.2.1 657 = .ok (.iadd, 1) := by decide +kernel
theorem dLa_law_658 : decode mLa_law.2.1 658 = .ok (.iaload, 1) := by decide +kernel
theorem dLa_law_659 : decode mLa_law.2.1 659 = .ok (.aload_n 3, 1) := by decide +kernel
theorem dLa_law_660 : decode mLa_law.2.1 660 = .ok (.invokestatic 109, 3) := by decide +kernel
theorem dLa_law_663 : decode mLa_law.2.1 663 = .ok (.istore 5, 2) := by decide +kernel
theorem dLa_law_665 : decode mLa_law.2.1 665 = .ok (.aload_n 2, 1) := by decide +kernel
theorem dLa_law_666 : decode mLa_law.2.1 666 = .ok (.aload_n 0, 1) := by decide +kernel
theorem dLa_law_667 : decode mLa_law.2.1 667 = .ok (.iload 4, 2) := by decide +kernel
theorem dLa_law_669 : decode mLa_law.2.1 669 = .ok (.iconst 1, 1) := by decide +kernel
theorem dLa_law_670 : decode mLa_law.2.1 670 = .ok (.iadd, 1) := by decide +kernel
theorem dLa_law_671 : decode mLa_law.2.1 671 = .ok (.iaload, 1) := by decide +kernel
theorem dLa_law_672 : decode mLa_law.2.1 672 = .ok (.invokevirtual 111, 3) := by decide +kernel
theorem dLa_law_675 : decode mLa_law.2.1 675 = .ok (.istore 6, 2) := by decide +kernel
theorem dLa_law_677 : decode mLa_law.2.1 677 = .ok (.aload_n 2, 1) := by decide +kernel
theorem dLa_law_678 : decode mLa_law.2.1 678 = .ok (.invokevirtual 64, 3) := by decide +kernel
theorem dLa_law_681 : decode mLa_law.2.1 681 = .ok (.iload 5, 2) := by decide +kernel
theorem dLa_law_683 : decode mLa_law.2.1 683 = .ok (.if_icmp .eq 5, 3) := by decide +kernel
theorem dLa_law_686 : decode mLa_law.2.1 686 = .ok (.iconst 0, 1) := by decide +kernel
theorem dLa_law_687 : decode mLa_law.2.1 687 = .ok (.ireturn, 1) := by decide +kernel
theorem dLa_law_688 : decode mLa_law.2.1 688 = .ok (.iload 5, 2) := by decide +kernel
theorem dLa_law_690 : decode mLa_law.2.1 690 = .ok (.ifCond .ne 15, 3) := by decide +kernel
theorem dLa_law_693 : decode mLa_law.2.1 693 = .ok (.aload_n 3, 1) := by decide +kernel
theorem dLa_law_694 : decode mLa_law.2.1 694 = .ok (.iconst 0, 1) := by decide +kernel
theorem dLa_law_695 : decode mLa_law.2.1 695 = .ok (.laload, 1) := by decide +kernel
theorem dLa_law_696 : decode mLa_law.2.1 696 = .ok (.iload 6, 2) := by decide +kernel
theorem dLa_law_698 : decode mLa_law.2.1 698 = .ok (.i2l, 1) := by decide +kernel
theorem dLa_law_699 : decode mLa_law.2.1 699 = .ok (.lcmp, 1) := by decide +kernel
theorem dLa_law_700 : decode mLa_law.2.1 700 = .ok (.ifCond .eq 5, 3) := by decide +kernel
theorem dLa_law_703 : decode mLa_law.2.1 703 = .ok (.iconst 0, 1) := by decide +kernel
theorem dLa_law_704 : decode mLa_law.2.1 704 = .ok (.ireturn, 1) := by decide +kernel
theorem dLa_law_705 : decode mLa_law.2.1 705 = .ok (.goto 147, 3) := by decide +kernel
theorem dLa_law_708 : decode mLa_law.2.1 708 = .ok (.aload_n 1, 1) := by decide +kernel
theorem dLa_law_709 : decode mLa_law.2.1 709 = .ok (.invokevirtual 112, 3) := by decide +kernel
theorem dLa_law_712 : decode mLa_law.2.1 712 = .ok (.aload_n 2, 1) := by decide +kernel
theorem dLa_law_713 : decode mLa_law.2.1 713 = .ok (.invokevirtual 115, 3) := by decide +kernel
theorem dLa_law_716 : decode mLa_law.2.1 716 = .ok (.if_icmp .eq 136, 3) := by decide +kernel
theorem dLa_law_719 : decode mLa_law.2.1 719 = .ok (.iconst 0, 1) := by decide +kernel
theorem dLa_law_720 : decode mLa_law.2.1 720 = .ok (.ireturn, 1) := by decide +kernel
theorem dLa_law_721 : decode mLa_law.2.1 721 = .ok (.aload_n 1, 1) := by decide +kernel
theorem dLa_law_722 : decode mLa_law.2.1 722 = .ok (.aload_n 0, 1) := by decide +kernel
theorem dLa_law_723 : decode mLa_law.2.1 723 = .ok (.iload 4, 2) := by decide +kernel
theorem dLa_law_725 : decode mLa_law.2.1 725 = .ok (.iconst 1, 1) := by decide +kernel
theorem dLa_law_726 : decode mLa_law.2.1 726 = .ok (.iadd, 1) := by decide +kernel
theorem dLa_law_727 : decode mLa_law.2.1 727 = .ok (.iaload, 1) := by decide +kernel
theorem dLa_law_728 : decode mLa_law.2.1 728 = .ok (.aload_n 0, 1) := by decide +kernel
theorem dLa_law_729 : decode mLa_law.2.1 729 = .ok (.iload 4, 2) := by decide +kernel
theorem dLa_law_731 : decode mLa_law.2.1 731 = .ok (.iconst 2, 1) := by decide +kernel
theorem dLa_law_732 : decode mLa_law.2.1 732 = .ok (.iadd, 1) := by decide +kernel
theorem dLa_law_733 : decode mLa_law.2.1 733 = .ok (.iaload, 1) := by decide +kernel
theorem dLa_law_734 : decode mLa_law.2.1 734 = .ok (.aload_n 3, 1) := by decide +kernel
theorem dLa_law_735 : decode mLa_law.2.1 735 = .ok (.invokestatic 116, 3) := by decide +kernel
theorem dLa_law_738 : decode mLa_law.2.1 738 = .ok (.istore 5, 2) := by decide +kernel
theorem dLa_law_740 : decode mLa_law.2.1 740 = .ok (.aload_n 2, 1) := by decide +kernel
theorem dLa_law_741 : decode mLa_law.2.1 741 = .ok (.aload_n 0, 1) := by decide +kernel
theorem dLa_law_742 : decode mLa_law.2.1 742 = .ok (.iload 4, 2) := by decide +kernel
theorem dLa_law_744 : decode mLa_law.2.1 744 = .ok (.iconst 1, 1) := by decide +kernel
theorem dLa_law_745 : decode mLa_law.2.1 745 = .ok (.iadd, 1) := by decide +kernel
theorem dLa_law_746 : decode mLa_law.2.1 746 = .ok (.iaload, 1) := by decide +kernel
theorem dLa_law_747 : decode mLa_law.2.1 747 = .ok (.aload_n 0, 1) := by decide +kernel
theorem dLa_law_748 : decode mLa_law.2.1 748 = .ok (.iload 4, 2) := by decide +kernel
theorem dLa_law_750 : decode mLa_law.2.1 750 = .ok (.iconst 2, 1) := by decide +kernel
theorem dLa_law_751 : decode mLa_law.2.1 751 = .ok (.iadd, 1) := by decide +kernel
theorem dLa_law_752 : decode mLa_law.2.1 752 = .ok (.iaload, 1) := by decide +kernel
theorem dLa_law_753 : decode mLa_law.2.1 753 = .ok (.invokevirtual 118, 3) := by decide +kernel
theorem dLa_law_756 : decode mLa_law.2.1 756 = .ok (.istore 6, 2) := by decide +kernel
theorem dLa_law_758 : decode mLa_law.2.1 758 = .ok (.aload_n 2, 1) := by decide +kernel
theorem dLa_law_759 : decode mLa_law.2.1 759 = .ok (.invokevirtual 64, 3) := by decide +kernel
theorem dLa_law_762 : decode mLa_law.2.1 762 = .ok (.iload 5, 2) := by decide +kernel
theorem dLa_law_764 : decode mLa_law.2.1 764 = .ok (.if_icmp .eq 5, 3) := by decide +kernel
theorem dLa_law_767 : decode mLa_law.2.1 767 = .ok (.iconst 0, 1) := by decide +kernel
theorem dLa_law_768 : decode mLa_law.2.1 768 = .ok (.ireturn, 1) := by decide +kernel
theorem dLa_law_769 : decode mLa_law.2.1 769 = .ok (.iload 5, 2) := by decide +kernel
theorem dLa_law_771 : decode mLa_law.2.1 771 = .ok (.ifCond .ne 22, 3) := by decide +kernel
theorem dLa_law_774 : decode mLa_law.2.1 774 = .ok (.aload_n 3, 1) := by decide +kernel
theorem dLa_law_775 : decode mLa_law.2.1 775 = .ok (.iconst 0, 1) := by decide +kernel
theorem dLa_law_776 : decode mLa_law.2.1 776 = .ok (.laload, 1) := by decide +kernel
theorem dLa_law_777 : decode mLa_law.2.1 777 = .ok (.iload 6, 2) := by decide +kernel
theorem dLa_law_779 : decode mLa_law.2.1 779 = .ok (.ifCond .eq 7, 3) := by decide +kernel
theorem dLa_law_782 : decode mLa_law.2.1 782 = .ok (.lconst 1, 1) := by decide +kernel
theorem dLa_law_783 : decode mLa_law.2.1 783 = .ok (.goto 4, 3) := by decide +kernel
theorem dLa_law_786 : decode mLa_law.2.1 786 = .ok (.lconst 0, 1) := by decide +kernel
theorem dLa_law_787 : decode mLa_law.2.1 787 = .ok (.lcmp, 1) := by decide +kernel
theorem dLa_law_788 : decode mLa_law.2.1 788 = .ok (.ifCond .eq 5, 3) := by decide +kernel
theorem dLa_law_791 : decode mLa_law.2.1 791 = .ok (.iconst 0, 1) := by decide +kernel
theorem dLa_law_792 : decode mLa_law.2.1 792 = .ok (.ireturn, 1) := by decide +kernel
theorem dLa_law_793 : decode mLa_law.2.1 793 = .ok (.goto 59, 3) := by decide +kernel
theorem dLa_law_796 : decode mLa_law.2.1 796 = .ok (.aload_n 1, 1) := by decide +kernel
theorem dLa_law_797 : decode mLa_law.2.1 797 = .ok (.aload_n 0, 1) := by decide +kernel
theorem dLa_law_798 : decode mLa_law.2.1 798 = .ok (.iload 4, 2) := by decide +kernel
theorem dLa_law_800 : decode mLa_law.2.1 800 = .ok (.iconst 1, 1) := by decide +kernel
theorem dLa_law_801 : decode mLa_law.2.1 801 = .ok (.iadd, 1) := by decide +kernel
theorem dLa_law_802 : decode mLa_law.2.1 802 = .ok (.iaload, 1) := by decide +kernel
theorem dLa_law_803 : decode mLa_law.2.1 803 = .ok (.aload_n 3, 1) := by decide +kernel
theorem dLa_law_804 : decode mLa_law.2.1 804 = .ok (.invokestatic 119, 3) := by decide +kernel
theorem dLa_law_807 : decode mLa_law.2.1 807 = .ok (.istore 5, 2) := by decide +kernel
theorem dLa_law_809 : decode mLa_law.2.1 809 = .ok (.aload_n 2, 1) := by decide +kernel
theorem dLa_law_810 : decode mLa_law.2.1 810 = .ok (.aload_n 0, 1) := by decide +kernel
theorem dLa_law_811 : decode mLa_law.2.1 811 = .ok (.iload 4, 2) := by decide +kernel
theorem dLa_law_813 : decode mLa_law.2.1 813 = .ok (.iconst 1, 1) := by decide +kernel
theorem dLa_law_814 : decode mLa_law.2.1 814 = .ok (.iadd, 1) := by decide +kernel
theorem dLa_law_815 : decode mLa_law.2.1 815 = .ok (.iaload, 1) := by decide +kernel
theorem dLa_law_816 : decode mLa_law.2.1 816 = .ok (.invokevirtual 121, 3) := by decide +kernel
theorem dLa_law_819 : decode mLa_law.2.1 819 = .ok (.istore 6, 2) := by decide +kernel
theorem dLa_law_821 : decode mLa_law.2.1 821 = .ok (.aload_n 2, 1) := by decide +kernel
theorem dLa_law_822 : decode mLa_law.2.1 822 = .ok (.invokevirtual 64, 3) := by decide +kernel
theorem dLa_law_825 : decode mLa_law.2.1 825 = .ok (.iload 5, 2) := by decide +kernel
theorem dLa_law_827 : decode mLa_law.2.1 827 = .ok (.if_icmp .eq 5, 3) := by decide +kernel
theorem dLa_law_830 : decode mLa_law.2.1 830 = .ok (.iconst 0, 1) := by decide +kernel
theorem dLa_law_831 : decode mLa_law.2.1 831 = .ok (.ireturn, 1) := by decide +kernel
theorem dLa_law_832 : decode mLa_law.2.1 832 = .ok (.iload 5, 2) := by decide +kernel
theorem dLa_law_834 : decode mLa_law.2.1 834 = .ok (.ifCond .ne 15, 3) := by decide +kernel
theorem dLa_law_837 : decode mLa_law.2.1 837 = .ok (.aload_n 3, 1) := by decide +kernel
theorem dLa_law_838 : decode mLa_law.2.1 838 = .ok (.iconst 0, 1) := by decide +kernel
theorem dLa_law_839 : decode mLa_law.2.1 839 = .ok (.laload, 1) := by decide +kernel
theorem dLa_law_840 : decode mLa_law.2.1 840 = .ok (.iload 6, 2) := by decide +kernel
theorem dLa_law_842 : decode mLa_law.2.1 842 = .ok (.i2l, 1) := by decide +kernel
theorem dLa_law_843 : decode mLa_law.2.1 843 = .ok (.lcmp, 1) := by decide +kernel
theorem dLa_law_844 : decode mLa_law.2.1 844 = .ok (.ifCond .eq 5, 3) := by decide +kernel
theorem dLa_law_847 : decode mLa_law.2.1 847 = .ok (.iconst 0, 1) := by decide +kernel
theorem dLa_law_848 : decode mLa_law.2.1 848 = .ok (.ireturn, 1) := by decide +kernel
theorem dLa_law_849 : decode mLa_law.2.1 849 = .ok (.goto 3, 3) := by decide +kernel
theorem dLa_law_852 : decode mLa_law.2.1 852 = .ok (.iinc 4 5, 3) := by decide +kernel
theorem dLa_law_855 : decode mLa_law.2.1 855 = .ok (.goto (-832), 3) := by decide +kernel
theorem dLa_law_858 : decode mLa_law.2.1 858 = .ok (.iconst 1, 1) := by decide +kernel
theorem dLa_law_859 : decode mLa_law.2.1 859 = .ok (.ireturn, 1) := by decide +kernel
def lLa_law_23 (a4 : Int32) (w5 : Slot) (w6 : Slot) : List Slot := [.val (.ref 0), .val (.ref 13), .val (.ref 193), .val (.ref 224), .val (.int a4), w5, w6]
def lLa_law_112 (a4 : Int32) (w5 : Slot) (w6 : Slot) : List Slot := [.val (.ref 0), .val (.ref 13), .val (.ref 193), .val (.ref 224), .val (.int a4), w5, w6]
def lLa_law_123 (a4 : Int32) (w5 : Slot) (w6 : Slot) : List Slot := [.val (.ref 0), .val (.ref 13), .val (.ref 193), .val (.ref 224), .val (.int a4), w5, w6]
def lLa_law_135 (a4 : Int32) (a5 : Int32) (w6 : Slot) : List Slot := [.val (.ref 0), .val (.ref 13), .val (.ref 193), .val (.ref 224), .val (.int a4), .val (.int a5), w6]
def lLa_law_141 (a4 : Int32) (a5 : Int32) (a6 : Int32) : List Slot := [.val (.ref 0), .val (.ref 13), .val (.ref 193), .val (.ref 224), .val (.int a4), .val (.int a5), .val (.int a6)]
def lLa_law_165 (a4 : Int32) (a5 : Int32) (a6 : Int32) : List Slot := [.val (.ref 0), .val (.ref 13), .val (.ref 193), .val (.ref 224), .val (.int a4), .val (.int a5), .val (.int a6)]
def lLa_law_168 (a4 : Int32) (w5 : Slot) (w6 : Slot) : List Slot := [.val (.ref 0), .val (.ref 13), .val (.ref 193), .val (.ref 224), .val (.int a4), w5, w6]
def lLa_law_184 (a4 : Int32) (w5 : Slot) (w6 : Slot) : List Slot := [.val (.ref 0), .val (.ref 13), .val (.ref 193), .val (.ref 224), .val (.int a4), w5, w6]
def lLa_law_202 (a4 : Int32) (a5 : Int32) (w6 : Slot) : List Slot := [.val (.ref 0), .val (.ref 13), .val (.ref 193), .val (.ref 224), .val (.int a4), .val (.int a5), w6]
def lLa_law_206 (a4 : Int32) (a5 : Int32) (w6 : Slot) : List Slot := [.val (.ref 0), .val (.ref 13), .val (.ref 193), .val (.ref 224), .val (.int a4), .val (.int a5), w6]
def lLa_law_216 (a4 : Int32) (w5 : Slot) (w6 : Slot) : List Slot := [.val (.ref 0), .val (.ref 13), .val (.ref 193), .val (.ref 224), .val (.int a4), w5, w6]
def lLa_law_245 (a4 : Int32) (w5 : Slot) (w6 : Slot) : List Slot := [.val (.ref 0), .val (.ref 13), .val (.ref 193), .val (.ref 224), .val (.int a4), w5, w6]
def lLa_law_275 (a4 : Int32) (a5 : Int32) (w6 : Slot) : List Slot := [.val (.ref 0), .val (.ref 13), .val (.ref 193), .val (.ref 224), .val (.int a4), .val (.int a5), w6]
def lLa_law_281 (a4 : Int32) (a5 : Int32) (a6 : Int32) : List Slot := [.val (.ref 0), .val (.ref 13), .val (.ref 193), .val (.ref 224), .val (.int a4), .val (.int a5), .val (.int a6)]
def lLa_law_305 (a4 : Int32) (a5 : Int32) (a6 : Int32) : List Slot := [.val (.ref 0), .val (.ref 13), .val (.ref 193), .val (.ref 224), .val (.int a4), .val (.int a5), .val (.int a6)]
def lLa_law_308 (a4 : Int32) (w5 : Slot) (w6 : Slot) : List Slot := [.val (.ref 0), .val (.ref 13), .val (.ref 193), .val (.ref 224), .val (.int a4), w5, w6]
def lLa_law_331 (a4 : Int32) (w5 : Slot) (w6 : Slot) : List Slot := [.val (.ref 0), .val (.ref 13), .val (.ref 193), .val (.ref 224), .val (.int a4), w5, w6]
def lLa_law_355 (a4 : Int32) (a5 : Int32) (w6 : Slot) : List Slot := [.val (.ref 0), .val (.ref 13), .val (.ref 193), .val (.ref 224), .val (.int a4), .val (.int a5), w6]
def lLa_law_361 (a4 : Int32) (a5 : Int32) (a6 : Int32) : List Slot := [.val (.ref 0), .val (.ref 13), .val (.ref 193), .val (.ref 224), .val (.int a4), .val (.int a5), .val (.int a6)]
def lLa_law_385 (a4 : Int32) (a5 : Int32) (a6 : Int32) : List Slot := [.val (.ref 0), .val (.ref 13), .val (.ref 193), .val (.ref 224), .val (.int a4), .val (.int a5), .val (.int a6)]
def lLa_law_388 (a4 : Int32) (w5 : Slot) (w6 : Slot) : List Slot := [.val (.ref 0), .val (.ref 13), .val (.ref 193), .val (.ref 224), .val (.int a4), w5, w6]
def lLa_law_414 (a4 : Int32) (w5 : Slot) (w6 : Slot) : List Slot := [.val (.ref 0), .val (.ref 13), .val (.ref 193), .val (.ref 224), .val (.int a4), w5, w6]
def lLa_law_440 (a4 : Int32) (w5 : Slot) (w6 : Slot) : List Slot := [.val (.ref 0), .val (.ref 13), .val (.ref 193), .val (.ref 224), .val (.int a4), w5, w6]
def lLa_law_445 (a4 : Int32) (w5 : Slot) (w6 : Slot) : List Slot := [.val (.ref 0), .val (.ref 13), .val (.ref 193), .val (.ref 224), .val (.int a4), w5, w6]
def lLa_law_449 (a4 : Int32) (w5 : Slot) (w6 : Slot) : List Slot := [.val (.ref 0), .val (.ref 13), .val (.ref 193), .val (.ref 224), .val (.int a4), w5, w6]
def lLa_law_453 (a4 : Int32) (w5 : Slot) (w6 : Slot) : List Slot := [.val (.ref 0), .val (.ref 13), .val (.ref 193), .val (.ref 224), .val (.int a4), w5, w6]
def lLa_law_458 (a4 : Int32) (w5 : Slot) (w6 : Slot) : List Slot := [.val (.ref 0), .val (.ref 13), .val (.ref 193), .val (.ref 224), .val (.int a4), w5, w6]
def lLa_law_463 (a4 : Int32) (w5 : Slot) (w6 : Slot) : List Slot := [.val (.ref 0), .val (.ref 13), .val (.ref 193), .val (.ref 224), .val (.int a4), w5, w6]
def lLa_law_469 (a4 : Int32) (a5 : Int32) (w6 : Slot) : List Slot := [.val (.ref 0), .val (.ref 13), .val (.ref 193), .val (.ref 224), .val (.int a4), .val (.int a5), w6]
def lLa_law_475 (a4 : Int32) (a5 : Int32) (a6 : Int32) : List Slot := [.val (.ref 0), .val (.ref 13), .val (.ref 193), .val (.ref 224), .val (.int a4), .val (.int a5), .val (.int a6)]
def lLa_law_499 (a4 : Int32) (a5 : Int32) (a6 : Int32) : List Slot := [.val (.ref 0), .val (.ref 13), .val (.ref 193), .val (.ref 224), .val (.int a4), .val (.int a5), .val (.int a6)]
def lLa_law_502 (a4 : Int32) (w5 : Slot) (w6 : Slot) : List Slot := [.val (.ref 0), .val (.ref 13), .val (.ref 193), .val (.ref 224), .val (.int a4), w5, w6]
def lLa_law_506 (a4 : Int32) (w5 : Slot) (w6 : Slot) : List Slot := [.val (.ref 0), .val (.ref 13), .val (.ref 193), .val (.ref 224), .val (.int a4), w5, w6]
def lLa_law_510 (a4 : Int32) (w5 : Slot) (w6 : Slot) : List Slot := [.val (.ref 0), .val (.ref 13), .val (.ref 193), .val (.ref 224), .val (.int a4), w5, w6]
def lLa_law_515 (a4 : Int32) (w5 : Slot) (w6 : Slot) : List Slot := [.val (.ref 0), .val (.ref 13), .val (.ref 193), .val (.ref 224), .val (.int a4), w5, w6]
def lLa_law_519 (a4 : Int32) (w5 : Slot) (w6 : Slot) : List Slot := [.val (.ref 0), .val (.ref 13), .val (.ref 193), .val (.ref 224), .val (.int a4), w5, w6]
def lLa_law_523 (a4 : Int32) (w5 : Slot) (w6 : Slot) : List Slot := [.val (.ref 0), .val (.ref 13), .val (.ref 193), .val (.ref 224), .val (.int a4), w5, w6]
def lLa_law_528 (a4 : Int32) (w5 : Slot) (w6 : Slot) : List Slot := [.val (.ref 0), .val (.ref 13), .val (.ref 193), .val (.ref 224), .val (.int a4), w5, w6]
def lLa_law_539 (a4 : Int32) (w5 : Slot) (w6 : Slot) : List Slot := [.val (.ref 0), .val (.ref 13), .val (.ref 193), .val (.ref 224), .val (.int a4), w5, w6]
def lLa_law_551 (a4 : Int32) (a5 : Int32) (w6 : Slot) : List Slot := [.val (.ref 0), .val (.ref 13), .val (.ref 193), .val (.ref 224), .val (.int a4), .val (.int a5), w6]
def lLa_law_557 (a4 : Int32) (a5 : Int32) (a6 : Int32) : List Slot := [.val (.ref 0), .val (.ref 13), .val (.ref 193), .val (.ref 224), .val (.int a4), .val (.int a5), .val (.int a6)]
def lLa_law_581 (a4 : Int32) (a5 : Int32) (a6 : Int32) : List Slot := [.val (.ref 0), .val (.ref 13), .val (.ref 193), .val (.ref 224), .val (.int a4), .val (.int a5), .val (.int a6)]
def lLa_law_584 (a4 : Int32) (w5 : Slot) (w6 : Slot) : List Slot := [.val (.ref 0), .val (.ref 13), .val (.ref 193), .val (.ref 224), .val (.int a4), w5, w6]
def lLa_law_601 (a4 : Int32) (w5 : Slot) (w6 : Slot) : List Slot := [.val (.ref 0), .val (.ref 13), .val (.ref 193), .val (.ref 224), .val (.int a4), w5, w6]
def lLa_law_619 (a4 : Int32) (a5 : Int32) (w6 : Slot) : List Slot := [.val (.ref 0), .val (.ref 13), .val (.ref 193), .val (.ref 224), .val (.int a4), .val (.int a5), w6]
def lLa_law_625 (a4 : Int32) (a5 : Int32) (a6 : Int32) : List Slot := [.val (.ref 0), .val (.ref 13), .val (.ref 193), .val (.ref 224), .val (.int a4), .val (.int a5), .val (.int a6)]
def lLa_law_649 (a4 : Int32) (a5 : Int32) (a6 : Int32) : List Slot := [.val (.ref 0), .val (.ref 13), .val (.ref 193), .val (.ref 224), .val (.int a4), .val (.int a5), .val (.int a6)]
def lLa_law_652 (a4 : Int32) (w5 : Slot) (w6 : Slot) : List Slot := [.val (.ref 0), .val (.ref 13), .val (.ref 193), .val (.ref 224), .val (.int a4), w5, w6]
def lLa_law_663 (a4 : Int32) (w5 : Slot) (w6 : Slot) : List Slot := [.val (.ref 0), .val (.ref 13), .val (.ref 193), .val (.ref 224), .val (.int a4), w5, w6]
def lLa_law_675 (a4 : Int32) (a5 : Int32) (w6 : Slot) : List Slot := [.val (.ref 0), .val (.ref 13), .val (.ref 193), .val (.ref 224), .val (.int a4), .val (.int a5), w6]
def lLa_law_681 (a4 : Int32) (a5 : Int32) (a6 : Int32) : List Slot := [.val (.ref 0), .val (.ref 13), .val (.ref 193), .val (.ref 224), .val (.int a4), .val (.int a5), .val (.int a6)]
def lLa_law_705 (a4 : Int32) (a5 : Int32) (a6 : Int32) : List Slot := [.val (.ref 0), .val (.ref 13), .val (.ref 193), .val (.ref 224), .val (.int a4), .val (.int a5), .val (.int a6)]
def lLa_law_708 (a4 : Int32) (w5 : Slot) (w6 : Slot) : List Slot := [.val (.ref 0), .val (.ref 13), .val (.ref 193), .val (.ref 224), .val (.int a4), w5, w6]
def lLa_law_712 (a4 : Int32) (w5 : Slot) (w6 : Slot) : List Slot := [.val (.ref 0), .val (.ref 13), .val (.ref 193), .val (.ref 224), .val (.int a4), w5, w6]
def lLa_law_716 (a4 : Int32) (w5 : Slot) (w6 : Slot) : List Slot := [.val (.ref 0), .val (.ref 13), .val (.ref 193), .val (.ref 224), .val (.int a4), w5, w6]
def lLa_law_721 (a4 : Int32) (w5 : Slot) (w6 : Slot) : List Slot := [.val (.ref 0), .val (.ref 13), .val (.ref 193), .val (.ref 224), .val (.int a4), w5, w6]
def lLa_law_738 (a4 : Int32) (w5 : Slot) (w6 : Slot) : List Slot := [.val (.ref 0), .val (.ref 13), .val (.ref 193), .val (.ref 224), .val (.int a4), w5, w6]
def lLa_law_756 (a4 : Int32) (a5 : Int32) (w6 : Slot) : List Slot := [.val (.ref 0), .val (.ref 13), .val (.ref 193), .val (.ref 224), .val (.int a4), .val (.int a5), w6]
def lLa_law_762 (a4 : Int32) (a5 : Int32) (a6 : Int32) : List Slot := [.val (.ref 0), .val (.ref 13), .val (.ref 193), .val (.ref 224), .val (.int a4), .val (.int a5), .val (.int a6)]
def lLa_law_787 (a4 : Int32) (a5 : Int32) (a6 : Int32) : List Slot := [.val (.ref 0), .val (.ref 13), .val (.ref 193), .val (.ref 224), .val (.int a4), .val (.int a5), .val (.int a6)]
def lLa_law_793 (a4 : Int32) (a5 : Int32) (a6 : Int32) : List Slot := [.val (.ref 0), .val (.ref 13), .val (.ref 193), .val (.ref 224), .val (.int a4), .val (.int a5), .val (.int a6)]
def lLa_law_796 (a4 : Int32) (w5 : Slot) (w6 : Slot) : List Slot := [.val (.ref 0), .val (.ref 13), .val (.ref 193), .val (.ref 224), .val (.int a4), w5, w6]
def lLa_law_807 (a4 : Int32) (w5 : Slot) (w6 : Slot) : List Slot := [.val (.ref 0), .val (.ref 13), .val (.ref 193), .val (.ref 224), .val (.int a4), w5, w6]
def lLa_law_819 (a4 : Int32) (a5 : Int32) (w6 : Slot) : List Slot := [.val (.ref 0), .val (.ref 13), .val (.ref 193), .val (.ref 224), .val (.int a4), .val (.int a5), w6]
def lLa_law_825 (a4 : Int32) (a5 : Int32) (a6 : Int32) : List Slot := [.val (.ref 0), .val (.ref 13), .val (.ref 193), .val (.ref 224), .val (.int a4), .val (.int a5), .val (.int a6)]
def lLa_law_849 (a4 : Int32) (a5 : Int32) (a6 : Int32) : List Slot := [.val (.ref 0), .val (.ref 13), .val (.ref 193), .val (.ref 224), .val (.int a4), .val (.int a5), .val (.int a6)]
def lLa_law_852 (a4 : Int32) (w5 : Slot) (w6 : Slot) : List Slot := [.val (.ref 0), .val (.ref 13), .val (.ref 193), .val (.ref 224), .val (.int a4), w5, w6]
theorem bLa_law_23 {xs : List Int32} {a4 : Int32} {w5 : Slot} {w6 : Slot} (hX : X.length = 13) (hS : X[0]? = some (80, xs.map Value.int)) (hw5 : qfr w5) (hw6 : qfr w6) (k1 : (((qi xs.length) - 5) < a4) → P (.inl (some (.int 1)), (hpo X mem sw o e))) (h2 : (¬ ((qi xs.length) - 5) < a4) → inx a4 xs.length) (k3 : (¬ ((qi xs.length) - 5) < a4) → (((xs.getD (Int32.toNatClampNeg a4) 0) &&& 15) = 0) → QW d mLa_law 112 (lLa_law_112 a4 w5 w6) [] (hpo X mem sw o e) P) (k4 : (¬ ((qi xs.length) - 5) < a4) → (((xs.getD (Int32.toNatClampNeg a4) 0) &&& 15) = 1) → QW d mLa_law 168 (lLa_law_168 a4 w5 w6) [] (hpo X mem sw o e) P) (k5 : (¬ ((qi xs.length) - 5) < a4) → (((xs.getD (Int32.toNatClampNeg a4) 0) &&& 15) = 2) → QW d mLa_law 216 (lLa_law_216 a4 w5 w6) [] (hpo X mem sw o e) P) (k6 : (¬ ((qi xs.length) - 5) < a4) → (((xs.getD (Int32.toNatClampNeg a4) 0) &&& 15) = 3) → QW d mLa_law 308 (lLa_law_308 a4 w5 w6) [] (hpo X mem sw o e) P) (k7 : (¬ ((qi xs.length) - 5) < a4) → (((xs.getD (Int32.toNatClampNeg a4) 0) &&& 15) = 4) → QW d mLa_law 388 (lLa_law_388 a4 w5 w6) [] (hpo X mem sw o e) P) (k8 : (¬ ((qi xs.length) - 5) < a4) → (((xs.getD (Int32.toNatClampNeg a4) 0) &&& 15) = 5) → QW d mLa_law 445 (lLa_law_445 a4 w5 w6) [] (hpo X mem sw o e) P) (k9 : (¬ ((qi xs.length) - 5) < a4) → (((xs.getD (Int32.toNatClampNeg a4) 0) &&& 15) = 6) → QW d mLa_law 458 (lLa_law_458 a4 w5 w6) [] (hpo X mem sw o e) P) (k10 : (¬ ((qi xs.length) - 5) < a4) → (((xs.getD (Int32.toNatClampNeg a4) 0) &&& 15) = 7) → QW d mLa_law 502 (lLa_law_502 a4 w5 w6) [] (hpo X mem sw o e) P) (k11 : (¬ ((qi xs.length) - 5) < a4) → (((xs.getD (Int32.toNatClampNeg a4) 0) &&& 15) = 8) → QW d mLa_law 515 (lLa_law_515 a4 w5 w6) [] (hpo X mem sw o e) P) (k12 : (¬ ((qi xs.length) - 5) < a4) → (((xs.getD (Int32.toNatClampNeg a4) 0) &&& 15) = 9) → QW d mLa_law 528 (lLa_law_528 a4 w5 w6) [] (hpo X mem sw o e) P) (k13 : (¬ ((qi xs.length) - 5) < a4) → (((xs.getD (Int32.toNatClampNeg a4) 0) &&& 15) = 10) → QW d mLa_law 584 (lLa_law_584 a4 w5 w6) [] (hpo X mem sw o e) P) (k14 : (¬ ((qi xs.length) - 5) < a4) → (((xs.getD (Int32.toNatClampNeg a4) 0) &&& 15) = 11) → QW d mLa_law 652 (lLa_law_652 a4 w5 w6) [] (hpo X mem sw o e) P) (k15 : (¬ ((qi xs.length) - 5) < a4) → (((xs.getD (Int32.toNatClampNeg a4) 0) &&& 15) = 12) → QW d mLa_law 708 (lLa_law_708 a4 w5 w6) [] (hpo X mem sw o e) P) (k16 : (¬ ((qi xs.length) - 5) < a4) → (((xs.getD (Int32.toNatClampNeg a4) 0) &&& 15) = 13) → QW d mLa_law 721 (lLa_law_721 a4 w5 w6) [] (hpo X mem sw o e) P) (k17 : (¬ ((qi xs.length) - 5) < a4) → (((xs.getD (Int32.toNatClampNeg a4) 0) &&& 15) = 14) → QW d mLa_law 796 (lLa_law_796 a4 w5 w6) [] (hpo X mem sw o e) P) (k18 : (¬ ((qi xs.length) - 5) < a4) → QW d mLa_law 852 (lLa_law_852 a4 w5 w6) [] (hpo X mem sw o e) P) : QW d mLa_law 23 (lLa_law_23 a4 w5 w6) [] (hpo X mem sw o e) P := by
  show QW d mLa_law 23 [.val (.ref 0), .val (.ref 13), .val (.ref 193), .val (.ref 224), .val (.int a4), w5, w6] [] (hpo X mem sw o e) P
  refine QW.iload dLa_law_23 rfl ?_
  refine QW.aload_n dLa_law_25 rfl rfl ?_
  refine MW.slen hS dLa_law_26 ?_
  refine QW.iconst (v := 5) dLa_law_27 (by decide) ?_
  refine QW.isub dLa_law_28 ?_
  refine QW.icmp_gt (tgt := 858) dLa_law_29 (by decide) (fun z0 => ?_) (fun z0 => ?_)
  · refine QW.iconst (v := 1) dLa_law_858 (by decide) ?_
    exact QW.iret dLa_law_859 rfl rfl (k1 z0)
  · refine QW.aload_n dLa_law_32 rfl rfl ?_
    refine QW.iload dLa_law_33 rfl ?_
    refine MW.sald hS dLa_law_35 (h2 z0) ?_
    refine QW.bipush (v := 15) dLa_law_36 (by decide) ?_
    refine QW.iand dLa_law_38 ?_
    by_cases y0 : ((xs.getD (Int32.toNatClampNeg a4) 0) &&& 15) = 0
    · refine QW.tswI (j := 0) (tgt := 112) dLa_law_39 y0 (by decide) rfl (by decide) ?_
      exact (k3 z0 y0)
    by_cases y1 : ((xs.getD (Int32.toNatClampNeg a4) 0) &&& 15) = 1
    · refine QW.tswI (j := 1) (tgt := 168) dLa_law_39 y1 (by decide) rfl (by decide) ?_
      exact (k4 z0 y1)
    by_cases y2 : ((xs.getD (Int32.toNatClampNeg a4) 0) &&& 15) = 2
    · refine QW.tswI (j := 2) (tgt := 216) dLa_law_39 y2 (by decide) rfl (by decide) ?_
      exact (k5 z0 y2)
    by_cases y3 : ((xs.getD (Int32.toNatClampNeg a4) 0) &&& 15) = 3
    · refine QW.tswI (j := 3) (tgt := 308) dLa_law_39 y3 (by decide) rfl (by decide) ?_
      exact (k6 z0 y3)
    by_cases y4 : ((xs.getD (Int32.toNatClampNeg a4) 0) &&& 15) = 4
    · refine QW.tswI (j := 4) (tgt := 388) dLa_law_39 y4 (by decide) rfl (by decide) ?_
      exact (k7 z0 y4)
    by_cases y5 : ((xs.getD (Int32.toNatClampNeg a4) 0) &&& 15) = 5
    · refine QW.tswI (j := 5) (tgt := 445) dLa_law_39 y5 (by decide) rfl (by decide) ?_
      exact (k8 z0 y5)
    by_cases y6 : ((xs.getD (Int32.toNatClampNeg a4) 0) &&& 15) = 6
    · refine QW.tswI (j := 6) (tgt := 458) dLa_law_39 y6 (by decide) rfl (by decide) ?_
      exact (k9 z0 y6)
    by_cases y7 : ((xs.getD (Int32.toNatClampNeg a4) 0) &&& 15) = 7
    · refine QW.tswI (j := 7) (tgt := 502) dLa_law_39 y7 (by decide) rfl (by decide) ?_
      exact (k10 z0 y7)
    by_cases y8 : ((xs.getD (Int32.toNatClampNeg a4) 0) &&& 15) = 8
    · refine QW.tswI (j := 8) (tgt := 515) dLa_law_39 y8 (by decide) rfl (by decide) ?_
      exact (k11 z0 y8)
    by_cases y9 : ((xs.getD (Int32.toNatClampNeg a4) 0) &&& 15) = 9
    · refine QW.tswI (j := 9) (tgt := 528) dLa_law_39 y9 (by decide) rfl (by decide) ?_
      exact (k12 z0 y9)
    by_cases y10 : ((xs.getD (Int32.toNatClampNeg a4) 0) &&& 15) = 10
    · refine QW.tswI (j := 10) (tgt := 584) dLa_law_39 y10 (by decide) rfl (by decide) ?_
      exact (k13 z0 y10)
    by_cases y11 : ((xs.getD (Int32.toNatClampNeg a4) 0) &&& 15) = 11
    · refine QW.tswI (j := 11) (tgt := 652) dLa_law_39 y11 (by decide) rfl (by decide) ?_
      exact (k14 z0 y11)
    by_cases y12 : ((xs.getD (Int32.toNatClampNeg a4) 0) &&& 15) = 12
    · refine QW.tswI (j := 12) (tgt := 708) dLa_law_39 y12 (by decide) rfl (by decide) ?_
      exact (k15 z0 y12)
    by_cases y13 : ((xs.getD (Int32.toNatClampNeg a4) 0) &&& 15) = 13
    · refine QW.tswI (j := 13) (tgt := 721) dLa_law_39 y13 (by decide) rfl (by decide) ?_
      exact (k16 z0 y13)
    by_cases y14 : ((xs.getD (Int32.toNatClampNeg a4) 0) &&& 15) = 14
    · refine QW.tswI (j := 14) (tgt := 796) dLa_law_39 y14 (by decide) rfl (by decide) ?_
      exact (k17 z0 y14)
    refine QW.tswO (tgt := 852) dLa_law_39 (fun j hj => match j, hj with | 0, _ => y0 | 1, _ => y1 | 2, _ => y2 | 3, _ => y3 | 4, _ => y4 | 5, _ => y5 | 6, _ => y6 | 7, _ => y7 | 8, _ => y8 | 9, _ => y9 | 10, _ => y10 | 11, _ => y11 | 12, _ => y12 | 13, _ => y13 | 14, _ => y14 | j + 15, h => absurd h (by omega)) (by decide) ?_
    exact (k18 z0)
theorem bLa_law_112 {xs : List Int32} {a4 : Int32} {w5 : Slot} {w6 : Slot} (hX : X.length = 13) (hS : X[0]? = some (80, xs.map Value.int)) (hw5 : qfr w5) (hw6 : qfr w6) (h1 : inx (a4 + 1) xs.length) (k2 : QW d mLa_table 0 (qen 4 [.ref 13, .int (xs.getD (Int32.toNatClampNeg (a4 + 1)) 0), .ref 224]) [] (hpo X mem sw o e) (qcl d mLa_law 120 123 (lLa_law_123 a4 w5 w6) [] P)) : QW (d + 1) mLa_law 112 (lLa_law_112 a4 w5 w6) [] (hpo X mem sw o e) P := by
  show QW (d + 1) mLa_law 112 [.val (.ref 0), .val (.ref 13), .val (.ref 193), .val (.ref 224), .val (.int a4), w5, w6] [] (hpo X mem sw o e) P
  refine QW.aload_n dLa_law_112 rfl rfl ?_
  refine QW.aload_n dLa_law_113 rfl rfl ?_
  refine QW.iload dLa_law_114 rfl ?_
  refine QW.iconst (v := 1) dLa_law_116 (by decide) ?_
  refine QW.iadd dLa_law_117 ?_
  refine MW.sald hS dLa_law_118 h1 ?_
  refine QW.aload_n dLa_law_119 rfl rfl ?_
  exact MW.calS (as := [.ref 13, .int (xs.getD (Int32.toNatClampNeg (a4 + 1)) 0), .ref 224]) (rest := []) dLa_law_120 eLa_table lLa_58 sLa_table rfl rfl rfl (Nat.le_of_ble_eq_true rfl) rfl k2
theorem bLa_law_123 {xs : List Int32} {a4 : Int32} {w5 : Slot} {w6 : Slot} {s0 : Int32} (hX : X.length = 13) (hS : X[0]? = some (80, xs.map Value.int)) (hw5 : qfr w5) (hw6 : qfr w6) (h1 : inx (a4 + 1) xs.length) (k2 : QW d mMo_table 0 (qen 2 [.ref 193, .int (xs.getD (Int32.toNatClampNeg (a4 + 1)) 0)]) [] (hpo X mem sw o e) (qcl d mLa_law 132 135 (lLa_law_135 a4 s0 w6) [] P)) : QW (d + 1) mLa_law 123 (lLa_law_123 a4 w5 w6) [.int s0] (hpo X mem sw o e) P := by
  show QW (d + 1) mLa_law 123 [.val (.ref 0), .val (.ref 13), .val (.ref 193), .val (.ref 224), .val (.int a4), w5, w6] [.int s0] (hpo X mem sw o e) P
  refine QW.istore (ls' := [.val (.ref 0), .val (.ref 13), .val (.ref 193), .val (.ref 224), .val (.int a4), .val (.int s0), w6]) dLa_law_123 (by rcases hw5 with z | ⟨_, z⟩ | ⟨_, z⟩ <;> subst z <;> rfl) ?_
  refine QW.aload_n dLa_law_125 rfl rfl ?_
  refine QW.aload_n dLa_law_126 rfl rfl ?_
  refine QW.iload dLa_law_127 rfl ?_
  refine QW.iconst (v := 1) dLa_law_129 (by decide) ?_
  refine QW.iadd dLa_law_130 ?_
  refine MW.sald hS dLa_law_131 h1 ?_
  exact MW.calV (as := [.int (xs.getD (Int32.toNatClampNeg (a4 + 1)) 0)]) (rest := []) hX dLa_law_132 eMo_table lLa_63 iMo_table vMo_table rfl rfl rfl rfl rfl rfl (Nat.le_of_ble_eq_true rfl) rfl k2
theorem bLa_law_135 {xs : List Int32} {a4 : Int32} {a5 : Int32} {w6 : Slot} {s0 : Int32} (hX : X.length = 13) (hS : X[0]? = some (80, xs.map Value.int)) (hw6 : qfr w6) (k1 : QW d mMo_thrown 0 (qen 1 [.ref 193]) [] (hpo X mem sw o e) (qcl d mLa_law 138 141 (lLa_law_141 a4 a5 s0) [] P)) : QW (d + 1) mLa_law 135 (lLa_law_135 a4 a5 w6) [.int s0] (hpo X mem sw o e) P := by
  show QW (d + 1) mLa_law 135 [.val (.ref 0), .val (.ref 13), .val (.ref 193), .val (.ref 224), .val (.int a4), .val (.int a5), w6] [.int s0] (hpo X mem sw o e) P
  refine QW.istore (ls' := [.val (.ref 0), .val (.ref 13), .val (.ref 193), .val (.ref 224), .val (.int a4), .val (.int a5), .val (.int s0)]) dLa_law_135 (by rcases hw6 with z | ⟨_, z⟩ | ⟨_, z⟩ <;> subst z <;> rfl) ?_
  refine QW.aload_n dLa_law_137 rfl rfl ?_
  exact MW.calV (as := []) (rest := []) hX dLa_law_138 eMo_thrown lLa_64 iMo_thrown vMo_thrown rfl rfl rfl rfl rfl rfl (Nat.le_of_ble_eq_true rfl) rfl k1
theorem bLa_law_141 {xs : List Int32} {a4 : Int32} {a5 : Int32} {a6 : Int32} {s0 : Int32} (hX : X.length = 13) (hS : X[0]? = some (80, xs.map Value.int)) (k1 : (s0 = a5) → (¬ a5 = 0) → QW d mLa_law 165 (lLa_law_165 a4 a5 a6) [] (hpo X mem sw o e) P) (k2 : (s0 = a5) → (a5 = 0) → ((lg_cmp o (Int32.toInt64 a6)) = 0) → QW d mLa_law 165 (lLa_law_165 a4 a5 a6) [] (hpo X mem sw o e) P) (k3 : (s0 = a5) → (a5 = 0) → (¬ (lg_cmp o (Int32.toInt64 a6)) = 0) → P (.inl (some (.int 0)), (hpo X mem sw o e))) (k4 : (¬ s0 = a5) → P (.inl (some (.int 0)), (hpo X mem sw o e))) : QW d mLa_law 141 (lLa_law_141 a4 a5 a6) [.int s0] (hpo X mem sw o e) P := by
  show QW d mLa_law 141 [.val (.ref 0), .val (.ref 13), .val (.ref 193), .val (.ref 224), .val (.int a4), .val (.int a5), .val (.int a6)] [.int s0] (hpo X mem sw o e) P
  refine QW.iload dLa_law_141 rfl ?_
  refine QW.icmp_eq (tgt := 148) dLa_law_143 (by decide) (fun z0 => ?_) (fun z0 => ?_)
  · refine QW.iload dLa_law_148 rfl ?_
    refine QW.if_ne (tgt := 165) dLa_law_150 (by decide) (fun z1 => ?_) (fun z1 => ?_)
    · exact (k1 z0 z1)
    · refine QW.aload_n dLa_law_153 rfl rfl ?_
      refine QW.iconst (v := 0) dLa_law_154 (by decide) ?_
      refine MW.lald hX dLa_law_155 ?_
      refine QW.iload dLa_law_156 rfl ?_
      refine QW.i2l dLa_law_158 ?_
      refine QW.lcmp dLa_law_159 ?_
      refine QW.if_eq (tgt := 165) dLa_law_160 (by decide) (fun z2 => ?_) (fun z2 => ?_)
      · exact (k2 z0 z1 z2)
      · refine QW.iconst (v := 0) dLa_law_163 (by decide) ?_
        exact QW.iret dLa_law_164 rfl rfl (k3 z0 z1 z2)
  · refine QW.iconst (v := 0) dLa_law_146 (by decide) ?_
    exact QW.iret dLa_law_147 rfl rfl (k4 z0)
theorem bLa_law_165 {xs : List Int32} {a4 : Int32} {a5 : Int32} {a6 : Int32} (hX : X.length = 13) (hS : X[0]? = some (80, xs.map Value.int)) (k1 : QW d mLa_law 852 (lLa_law_852 a4 (.val (.int a5)) (.val (.int a6))) [] (hpo X mem sw o e) P) : QW d mLa_law 165 (lLa_law_165 a4 a5 a6) [] (hpo X mem sw o e) P := by
  show QW d mLa_law 165 [.val (.ref 0), .val (.ref 13), .val (.ref 193), .val (.ref 224), .val (.int a4), .val (.int a5), .val (.int a6)] [] (hpo X mem sw o e) P
  refine QW.goto (tgt := 852) dLa_law_165 (by decide) ?_
  exact k1
theorem bLa_law_168 {xs : List Int32} {a4 : Int32} {w5 : Slot} {w6 : Slot} (hX : X.length = 13) (hS : X[0]? = some (80, xs.map Value.int)) (hw5 : qfr w5) (hw6 : qfr w6) (h1 : inx (a4 + 1) xs.length) (h2 : inx (a4 + 2) xs.length) (k3 : QW d mLa_key 0 (qen 4 [.ref 13, .int (xs.getD (Int32.toNatClampNeg (a4 + 1)) 0), .int (xs.getD (Int32.toNatClampNeg (a4 + 2)) 0)]) [] (hpo X mem sw o e) (qcl d mLa_law 181 184 (lLa_law_184 a4 w5 w6) [] P)) : QW (d + 1) mLa_law 168 (lLa_law_168 a4 w5 w6) [] (hpo X mem sw o e) P := by
  show QW (d + 1) mLa_law 168 [.val (.ref 0), .val (.ref 13), .val (.ref 193), .val (.ref 224), .val (.int a4), w5, w6] [] (hpo X mem sw o e) P
  refine QW.aload_n dLa_law_168 rfl rfl ?_
  refine QW.aload_n dLa_law_169 rfl rfl ?_
  refine QW.iload dLa_law_170 rfl ?_
  refine QW.iconst (v := 1) dLa_law_172 (by decide) ?_
  refine QW.iadd dLa_law_173 ?_
  refine MW.sald hS dLa_law_174 h1 ?_
  refine QW.aload_n dLa_law_175 rfl rfl ?_
  refine QW.iload dLa_law_176 rfl ?_
  refine QW.iconst (v := 2) dLa_law_178 (by decide) ?_
  refine QW.iadd dLa_law_179 ?_
  refine MW.sald hS dLa_law_180 h2 ?_
  exact MW.calS (as := [.ref 13, .int (xs.getD (Int32.toNatClampNeg (a4 + 1)) 0), .int (xs.getD (Int32.toNatClampNeg (a4 + 2)) 0)]) (rest := []) dLa_law_181 eLa_key lLa_67 sLa_key rfl rfl rfl (Nat.le_of_ble_eq_true rfl) rfl k3
theorem bLa_law_184 {xs : List Int32} {a4 : Int32} {w5 : Slot} {w6 : Slot} {s0 : Int32} (hX : X.length = 13) (hS : X[0]? = some (80, xs.map Value.int)) (hw5 : qfr w5) (hw6 : qfr w6) (h1 : inx (a4 + 1) xs.length) (h2 : inx (a4 + 2) xs.length) (k3 : QW d mMo_key 0 (qen 4 [.ref 193, .int (xs.getD (Int32.toNatClampNeg (a4 + 1)) 0), .int (xs.getD (Int32.toNatClampNeg (a4 + 2)) 0)]) [] (hpo X mem sw o e) (qcl d mLa_law 199 202 (lLa_law_202 a4 s0 w6) [] P)) : QW (d + 1) mLa_law 184 (lLa_law_184 a4 w5 w6) [.int s0] (hpo X mem sw o e) P := by
  show QW (d + 1) mLa_law 184 [.val (.ref 0), .val (.ref 13), .val (.ref 193), .val (.ref 224), .val (.int a4), w5, w6] [.int s0] (hpo X mem sw o e) P
  refine QW.istore (ls' := [.val (.ref 0), .val (.ref 13), .val (.ref 193), .val (.ref 224), .val (.int a4), .val (.int s0), w6]) dLa_law_184 (by rcases hw5 with z | ⟨_, z⟩ | ⟨_, z⟩ <;> subst z <;> rfl) ?_
  refine QW.aload_n dLa_law_186 rfl rfl ?_
  refine QW.aload_n dLa_law_187 rfl rfl ?_
  refine QW.iload dLa_law_188 rfl ?_
  refine QW.iconst (v := 1) dLa_law_190 (by decide) ?_
  refine QW.iadd dLa_law_191 ?_
  refine MW.sald hS dLa_law_192 h1 ?_
  refine QW.aload_n dLa_law_193 rfl rfl ?_
  refine QW.iload dLa_law_194 rfl ?_
  refine QW.iconst (v := 2) dLa_law_196 (by decide) ?_
  refine QW.iadd dLa_law_197 ?_
  refine MW.sald hS dLa_law_198 h2 ?_
  exact MW.calV (as := [.int (xs.getD (Int32.toNatClampNeg (a4 + 1)) 0), .int (xs.getD (Int32.toNatClampNeg (a4 + 2)) 0)]) (rest := []) hX dLa_law_199 eMo_key lLa_70 iMo_key vMo_key rfl rfl rfl rfl rfl rfl (Nat.le_of_ble_eq_true rfl) rfl k3
theorem bLa_law_202 {xs : List Int32} {a4 : Int32} {a5 : Int32} {w6 : Slot} (hX : X.length = 13) (hS : X[0]? = some (80, xs.map Value.int)) (hw6 : qfr w6) (k1 : QW d mMo_thrown 0 (qen 1 [.ref 193]) [] (hpo X mem sw o e) (qcl d mLa_law 203 206 (lLa_law_206 a4 a5 w6) [] P)) : QW (d + 1) mLa_law 202 (lLa_law_202 a4 a5 w6) [] (hpo X mem sw o e) P := by
  show QW (d + 1) mLa_law 202 [.val (.ref 0), .val (.ref 13), .val (.ref 193), .val (.ref 224), .val (.int a4), .val (.int a5), w6] [] (hpo X mem sw o e) P
  refine QW.aload_n dLa_law_202 rfl rfl ?_
  exact MW.calV (as := []) (rest := []) hX dLa_law_203 eMo_thrown lLa_64 iMo_thrown vMo_thrown rfl rfl rfl rfl rfl rfl (Nat.le_of_ble_eq_true rfl) rfl k1
theorem bLa_law_206 {xs : List Int32} {a4 : Int32} {a5 : Int32} {w6 : Slot} {s0 : Int32} (hX : X.length = 13) (hS : X[0]? = some (80, xs.map Value.int)) (hw6 : qfr w6) (k1 : (s0 = a5) → QW d mLa_law 852 (lLa_law_852 a4 (.val (.int a5)) w6) [] (hpo X mem sw o e) P) (k2 : (¬ s0 = a5) → P (.inl (some (.int 0)), (hpo X mem sw o e))) : QW d mLa_law 206 (lLa_law_206 a4 a5 w6) [.int s0] (hpo X mem sw o e) P := by
  show QW d mLa_law 206 [.val (.ref 0), .val (.ref 13), .val (.ref 193), .val (.ref 224), .val (.int a4), .val (.int a5), w6] [.int s0] (hpo X mem sw o e) P
  refine QW.iload dLa_law_206 rfl ?_
  refine QW.icmp_eq (tgt := 213) dLa_law_208 (by decide) (fun z0 => ?_) (fun z0 => ?_)
  · refine QW.goto (tgt := 852) dLa_law_213 (by decide) ?_
    exact (k1 z0)
  · refine QW.iconst (v := 0) dLa_law_211 (by decide) ?_
    exact QW.iret dLa_law_212 rfl rfl (k2 z0)
theorem bLa_law_216 {xs : List Int32} {a4 : Int32} {w5 : Slot} {w6 : Slot} (hX : X.length = 13) (hS : X[0]? = some (80, xs.map Value.int)) (hw5 : qfr w5) (hw6 : qfr w6) (h1 : inx (a4 + 1) xs.length) (h2 : inx (a4 + 2) xs.length) (h3 : inx (a4 + 3) xs.length) (h4 : inx (a4 + 4) xs.length) (k5 : QW d mLa_insert 0 (qen 7 [.ref 13, .int (xs.getD (Int32.toNatClampNeg (a4 + 1)) 0), .int (xs.getD (Int32.toNatClampNeg (a4 + 2)) 0), .int (xs.getD (Int32.toNatClampNeg (a4 + 3)) 0), .int (xs.getD (Int32.toNatClampNeg (a4 + 4)) 0), .ref 224]) [] (hpo X mem sw o e) (qcl d mLa_law 242 245 (lLa_law_245 a4 w5 w6) [] P)) : QW (d + 1) mLa_law 216 (lLa_law_216 a4 w5 w6) [] (hpo X mem sw o e) P := by
  show QW (d + 1) mLa_law 216 [.val (.ref 0), .val (.ref 13), .val (.ref 193), .val (.ref 224), .val (.int a4), w5, w6] [] (hpo X mem sw o e) P
  refine QW.aload_n dLa_law_216 rfl rfl ?_
  refine QW.aload_n dLa_law_217 rfl rfl ?_
  refine QW.iload dLa_law_218 rfl ?_
  refine QW.iconst (v := 1) dLa_law_220 (by decide) ?_
  refine QW.iadd dLa_law_221 ?_
  refine MW.sald hS dLa_law_222 h1 ?_
  refine QW.aload_n dLa_law_223 rfl rfl ?_
  refine QW.iload dLa_law_224 rfl ?_
  refine QW.iconst (v := 2) dLa_law_226 (by decide) ?_
  refine QW.iadd dLa_law_227 ?_
  refine MW.sald hS dLa_law_228 h2 ?_
  refine QW.aload_n dLa_law_229 rfl rfl ?_
  refine QW.iload dLa_law_230 rfl ?_
  refine QW.iconst (v := 3) dLa_law_232 (by decide) ?_
  refine QW.iadd dLa_law_233 ?_
  refine MW.sald hS dLa_law_234 h3 ?_
  refine QW.aload_n dLa_law_235 rfl rfl ?_
  refine QW.iload dLa_law_236 rfl ?_
  refine QW.iconst (v := 4) dLa_law_238 (by decide) ?_
  refine QW.iadd dLa_law_239 ?_
  refine MW.sald hS dLa_law_240 h4 ?_
  refine QW.aload_n dLa_law_241 rfl rfl ?_
  exact MW.calS (as := [.ref 13, .int (xs.getD (Int32.toNatClampNeg (a4 + 1)) 0), .int (xs.getD (Int32.toNatClampNeg (a4 + 2)) 0), .int (xs.getD (Int32.toNatClampNeg (a4 + 3)) 0), .int (xs.getD (Int32.toNatClampNeg (a4 + 4)) 0), .ref 224]) (rest := []) dLa_law_242 eLa_insert lLa_71 sLa_insert rfl rfl rfl (Nat.le_of_ble_eq_true rfl) rfl k5
theorem bLa_law_245 {xs : List Int32} {a4 : Int32} {w5 : Slot} {w6 : Slot} {s0 : Int32} (hX : X.length = 13) (hS : X[0]? = some (80, xs.map Value.int)) (hw5 : qfr w5) (hw6 : qfr w6) (h1 : inx (a4 + 1) xs.length) (h2 : inx (a4 + 2) xs.length) (h3 : inx (a4 + 3) xs.length) (h4 : inx (a4 + 4) xs.length) (k5 : QW d mMo_insert 0 (qen 7 [.ref 193, .int (xs.getD (Int32.toNatClampNeg (a4 + 1)) 0), .int (xs.getD (Int32.toNatClampNeg (a4 + 2)) 0), .int (xs.getD (Int32.toNatClampNeg (a4 + 3)) 0), .int (xs.getD (Int32.toNatClampNeg (a4 + 4)) 0)]) [] (hpo X mem sw o e) (qcl d mLa_law 272 275 (lLa_law_275 a4 s0 w6) [] P)) : QW (d + 1) mLa_law 245 (lLa_law_245 a4 w5 w6) [.int s0] (hpo X mem sw o e) P := by
  show QW (d + 1) mLa_law 245 [.val (.ref 0), .val (.ref 13), .val (.ref 193), .val (.ref 224), .val (.int a4), w5, w6] [.int s0] (hpo X mem sw o e) P
  refine QW.istore (ls' := [.val (.ref 0), .val (.ref 13), .val (.ref 193), .val (.ref 224), .val (.int a4), .val (.int s0), w6]) dLa_law_245 (by rcases hw5 with z | ⟨_, z⟩ | ⟨_, z⟩ <;> subst z <;> rfl) ?_
  refine QW.aload_n dLa_law_247 rfl rfl ?_
  refine QW.aload_n dLa_law_248 rfl rfl ?_
  refine QW.iload dLa_law_249 rfl ?_
  refine QW.iconst (v := 1) dLa_law_251 (by decide) ?_
  refine QW.iadd dLa_law_252 ?_
  refine MW.sald hS dLa_law_253 h1 ?_
  refine QW.aload_n dLa_law_254 rfl rfl ?_
  refine QW.iload dLa_law_255 rfl ?_
  refine QW.iconst (v := 2) dLa_law_257 (by decide) ?_
  refine QW.iadd dLa_law_258 ?_
  refine MW.sald hS dLa_law_259 h2 ?_
  refine QW.aload_n dLa_law_260 rfl rfl ?_
  refine QW.iload dLa_law_261 rfl ?_
  refine QW.iconst (v := 3) dLa_law_263 (by decide) ?_
  refine QW.iadd dLa_law_264 ?_
  refine MW.sald hS dLa_law_265 h3 ?_
  refine QW.aload_n dLa_law_266 rfl rfl ?_
  refine QW.iload dLa_law_267 rfl ?_
  refine QW.iconst (v := 4) dLa_law_269 (by decide) ?_
  refine QW.iadd dLa_law_270 ?_
  refine MW.sald hS dLa_law_271 h4 ?_
  exact MW.calV (as := [.int (xs.getD (Int32.toNatClampNeg (a4 + 1)) 0), .int (xs.getD (Int32.toNatClampNeg (a4 + 2)) 0), .int (xs.getD (Int32.toNatClampNeg (a4 + 3)) 0), .int (xs.getD (Int32.toNatClampNeg (a4 + 4)) 0)]) (rest := []) hX dLa_law_272 eMo_insert lLa_74 iMo_insert vMo_insert rfl rfl rfl rfl rfl rfl (Nat.le_of_ble_eq_true rfl) rfl k5
theorem bLa_law_275 {xs : List Int32} {a4 : Int32} {a5 : Int32} {w6 : Slot} {s0 : Int32} (hX : X.length = 13) (hS : X[0]? = some (80, xs.map Value.int)) (hw6 : qfr w6) (k1 : QW d mMo_thrown 0 (qen 1 [.ref 193]) [] (hpo X mem sw o e) (qcl d mLa_law 278 281 (lLa_law_281 a4 a5 s0) [] P)) : QW (d + 1) mLa_law 275 (lLa_law_275 a4 a5 w6) [.int s0] (hpo X mem sw o e) P := by
  show QW (d + 1) mLa_law 275 [.val (.ref 0), .val (.ref 13), .val (.ref 193), .val (.ref 224), .val (.int a4), .val (.int a5), w6] [.int s0] (hpo X mem sw o e) P
  refine QW.istore (ls' := [.val (.ref 0), .val (.ref 13), .val (.ref 193), .val (.ref 224), .val (.int a4), .val (.int a5), .val (.int s0)]) dLa_law_275 (by rcases hw6 with z | ⟨_, z⟩ | ⟨_, z⟩ <;> subst z <;> rfl) ?_
  refine QW.aload_n dLa_law_277 rfl rfl ?_
  exact MW.calV (as := []) (rest := []) hX dLa_law_278 eMo_thrown lLa_64 iMo_thrown vMo_thrown rfl rfl rfl rfl rfl rfl (Nat.le_of_ble_eq_true rfl) rfl k1
theorem bLa_law_281 {xs : List Int32} {a4 : Int32} {a5 : Int32} {a6 : Int32} {s0 : Int32} (hX : X.length = 13) (hS : X[0]? = some (80, xs.map Value.int)) (k1 : (s0 = a5) → (¬ a5 = 0) → QW d mLa_law 305 (lLa_law_305 a4 a5 a6) [] (hpo X mem sw o e) P) (k2 : (s0 = a5) → (a5 = 0) → ((lg_cmp o (Int32.toInt64 a6)) = 0) → QW d mLa_law 305 (lLa_law_305 a4 a5 a6) [] (hpo X mem sw o e) P) (k3 : (s0 = a5) → (a5 = 0) → (¬ (lg_cmp o (Int32.toInt64 a6)) = 0) → P (.inl (some (.int 0)), (hpo X mem sw o e))) (k4 : (¬ s0 = a5) → P (.inl (some (.int 0)), (hpo X mem sw o e))) : QW d mLa_law 281 (lLa_law_281 a4 a5 a6) [.int s0] (hpo X mem sw o e) P := by
  show QW d mLa_law 281 [.val (.ref 0), .val (.ref 13), .val (.ref 193), .val (.ref 224), .val (.int a4), .val (.int a5), .val (.int a6)] [.int s0] (hpo X mem sw o e) P
  refine QW.iload dLa_law_281 rfl ?_
  refine QW.icmp_eq (tgt := 288) dLa_law_283 (by decide) (fun z0 => ?_) (fun z0 => ?_)
  · refine QW.iload dLa_law_288 rfl ?_
    refine QW.if_ne (tgt := 305) dLa_law_290 (by decide) (fun z1 => ?_) (fun z1 => ?_)
    · exact (k1 z0 z1)
    · refine QW.aload_n dLa_law_293 rfl rfl ?_
      refine QW.iconst (v := 0) dLa_law_294 (by decide) ?_
      refine MW.lald hX dLa_law_295 ?_
      refine QW.iload dLa_law_296 rfl ?_
      refine QW.i2l dLa_law_298 ?_
      refine QW.lcmp dLa_law_299 ?_
      refine QW.if_eq (tgt := 305) dLa_law_300 (by decide) (fun z2 => ?_) (fun z2 => ?_)
      · exact (k2 z0 z1 z2)
      · refine QW.iconst (v := 0) dLa_law_303 (by decide) ?_
        exact QW.iret dLa_law_304 rfl rfl (k3 z0 z1 z2)
  · refine QW.iconst (v := 0) dLa_law_286 (by decide) ?_
    exact QW.iret dLa_law_287 rfl rfl (k4 z0)
theorem bLa_law_305 {xs : List Int32} {a4 : Int32} {a5 : Int32} {a6 : Int32} (hX : X.length = 13) (hS : X[0]? = some (80, xs.map Value.int)) (k1 : QW d mLa_law 852 (lLa_law_852 a4 (.val (.int a5)) (.val (.int a6))) [] (hpo X mem sw o e) P) : QW d mLa_law 305 (lLa_law_305 a4 a5 a6) [] (hpo X mem sw o e) P := by
  show QW d mLa_law 305 [.val (.ref 0), .val (.ref 13), .val (.ref 193), .val (.ref 224), .val (.int a4), .val (.int a5), .val (.int a6)] [] (hpo X mem sw o e) P
  refine QW.goto (tgt := 852) dLa_law_305 (by decide) ?_
  exact k1
theorem bLa_law_308 {xs : List Int32} {a4 : Int32} {w5 : Slot} {w6 : Slot} (hX : X.length = 13) (hS : X[0]? = some (80, xs.map Value.int)) (hw5 : qfr w5) (hw6 : qfr w6) (h1 : inx (a4 + 1) xs.length) (h2 : inx (a4 + 2) xs.length) (h3 : inx (a4 + 3) xs.length) (k4 : QW d mLa_delete 0 (qen 6 [.ref 13, .int (xs.getD (Int32.toNatClampNeg (a4 + 1)) 0), .int (xs.getD (Int32.toNatClampNeg (a4 + 2)) 0), .int (xs.getD (Int32.toNatClampNeg (a4 + 3)) 0), .ref 224]) [] (hpo X mem sw o e) (qcl d mLa_law 328 331 (lLa_law_331 a4 w5 w6) [] P)) : QW (d + 1) mLa_law 308 (lLa_law_308 a4 w5 w6) [] (hpo X mem sw o e) P := by
  show QW (d + 1) mLa_law 308 [.val (.ref 0), .val (.ref 13), .val (.ref 193), .val (.ref 224), .val (.int a4), w5, w6] [] (hpo X mem sw o e) P
  refine QW.aload_n dLa_law_308 rfl rfl ?_
  refine QW.aload_n dLa_law_309 rfl rfl ?_
  refine QW.iload dLa_law_310 rfl ?_
  refine QW.iconst (v := 1) dLa_law_312 (by decide) ?_
  refine QW.iadd dLa_law_313 ?_
  refine MW.sald hS dLa_law_314 h1 ?_
  refine QW.aload_n dLa_law_315 rfl rfl ?_
  refine QW.iload dLa_law_316 rfl ?_
  refine QW.iconst (v := 2) dLa_law_318 (by decide) ?_
  refine QW.iadd dLa_law_319 ?_
  refine MW.sald hS dLa_law_320 h2 ?_
  refine QW.aload_n dLa_law_321 rfl rfl ?_
  refine QW.iload dLa_law_322 rfl ?_
  refine QW.iconst (v := 3) dLa_law_324 (by decide) ?_
  refine QW.iadd dLa_law_325 ?_
  refine MW.sald hS dLa_law_326 h3 ?_
  refine QW.aload_n dLa_law_327 rfl rfl ?_
  exact MW.calS (as := [.ref 13, .int (xs.getD (Int32.toNatClampNeg (a4 + 1)) 0), .int (xs.getD (Int32.toNatClampNeg (a4 + 2)) 0), .int (xs.getD (Int32.toNatClampNeg (a4 + 3)) 0), .ref 224]) (rest := []) dLa_law_328 eLa_delete lLa_75 sLa_delete rfl rfl rfl (Nat.le_of_ble_eq_true rfl) rfl k4
theorem bLa_law_331 {xs : List Int32} {a4 : Int32} {w5 : Slot} {w6 : Slot} {s0 : Int32} (hX : X.length = 13) (hS : X[0]? = some (80, xs.map Value.int)) (hw5 : qfr w5) (hw6 : qfr w6) (h1 : inx (a4 + 1) xs.length) (h2 : inx (a4 + 2) xs.length) (h3 : inx (a4 + 3) xs.length) (k4 : QW d mMo_delete 0 (qen 8 [.ref 193, .int (xs.getD (Int32.toNatClampNeg (a4 + 1)) 0), .int (xs.getD (Int32.toNatClampNeg (a4 + 2)) 0), .int (xs.getD (Int32.toNatClampNeg (a4 + 3)) 0)]) [] (hpo X mem sw o e) (qcl d mLa_law 352 355 (lLa_law_355 a4 s0 w6) [] P)) : QW (d + 1) mLa_law 331 (lLa_law_331 a4 w5 w6) [.int s0] (hpo X mem sw o e) P := by
  show QW (d + 1) mLa_law 331 [.val (.ref 0), .val (.ref 13), .val (.ref 193), .val (.ref 224), .val (.int a4), w5, w6] [.int s0] (hpo X mem sw o e) P
  refine QW.istore (ls' := [.val (.ref 0), .val (.ref 13), .val (.ref 193), .val (.ref 224), .val (.int a4), .val (.int s0), w6]) dLa_law_331 (by rcases hw5 with z | ⟨_, z⟩ | ⟨_, z⟩ <;> subst z <;> rfl) ?_
  refine QW.aload_n dLa_law_333 rfl rfl ?_
  refine QW.aload_n dLa_law_334 rfl rfl ?_
  refine QW.iload dLa_law_335 rfl ?_
  refine QW.iconst (v := 1) dLa_law_337 (by decide) ?_
  refine QW.iadd dLa_law_338 ?_
  refine MW.sald hS dLa_law_339 h1 ?_
  refine QW.aload_n dLa_law_340 rfl rfl ?_
  refine QW.iload dLa_law_341 rfl ?_
  refine QW.iconst (v := 2) dLa_law_343 (by decide) ?_
  refine QW.iadd dLa_law_344 ?_
  refine MW.sald hS dLa_law_345 h2 ?_
  refine QW.aload_n dLa_law_346 rfl rfl ?_
  refine QW.iload dLa_law_347 rfl ?_
  refine QW.iconst (v := 3) dLa_law_349 (by decide) ?_
  refine QW.iadd dLa_law_350 ?_
  refine MW.sald hS dLa_law_351 h3 ?_
  exact MW.calV (as := [.int (xs.getD (Int32.toNatClampNeg (a4 + 1)) 0), .int (xs.getD (Int32.toNatClampNeg (a4 + 2)) 0), .int (xs.getD (Int32.toNatClampNeg (a4 + 3)) 0)]) (rest := []) hX dLa_law_352 eMo_delete lLa_78 iMo_delete vMo_delete rfl rfl rfl rfl rfl rfl (Nat.le_of_ble_eq_true rfl) rfl k4
theorem bLa_law_355 {xs : List Int32} {a4 : Int32} {a5 : Int32} {w6 : Slot} {s0 : Int32} (hX : X.length = 13) (hS : X[0]? = some (80, xs.map Value.int)) (hw6 : qfr w6) (k1 : QW d mMo_thrown 0 (qen 1 [.ref 193]) [] (hpo X mem sw o e) (qcl d mLa_law 358 361 (lLa_law_361 a4 a5 s0) [] P)) : QW (d + 1) mLa_law 355 (lLa_law_355 a4 a5 w6) [.int s0] (hpo X mem sw o e) P := by
  show QW (d + 1) mLa_law 355 [.val (.ref 0), .val (.ref 13), .val (.ref 193), .val (.ref 224), .val (.int a4), .val (.int a5), w6] [.int s0] (hpo X mem sw o e) P
  refine QW.istore (ls' := [.val (.ref 0), .val (.ref 13), .val (.ref 193), .val (.ref 224), .val (.int a4), .val (.int a5), .val (.int s0)]) dLa_law_355 (by rcases hw6 with z | ⟨_, z⟩ | ⟨_, z⟩ <;> subst z <;> rfl) ?_
  refine QW.aload_n dLa_law_357 rfl rfl ?_
  exact MW.calV (as := []) (rest := []) hX dLa_law_358 eMo_thrown lLa_64 iMo_thrown vMo_thrown rfl rfl rfl rfl rfl rfl (Nat.le_of_ble_eq_true rfl) rfl k1
theorem bLa_law_361 {xs : List Int32} {a4 : Int32} {a5 : Int32} {a6 : Int32} {s0 : Int32} (hX : X.length = 13) (hS : X[0]? = some (80, xs.map Value.int)) (k1 : (s0 = a5) → (¬ a5 = 0) → QW d mLa_law 385 (lLa_law_385 a4 a5 a6) [] (hpo X mem sw o e) P) (k2 : (s0 = a5) → (a5 = 0) → ((lg_cmp o (Int32.toInt64 a6)) = 0) → QW d mLa_law 385 (lLa_law_385 a4 a5 a6) [] (hpo X mem sw o e) P) (k3 : (s0 = a5) → (a5 = 0) → (¬ (lg_cmp o (Int32.toInt64 a6)) = 0) → P (.inl (some (.int 0)), (hpo X mem sw o e))) (k4 : (¬ s0 = a5) → P (.inl (some (.int 0)), (hpo X mem sw o e))) : QW d mLa_law 361 (lLa_law_361 a4 a5 a6) [.int s0] (hpo X mem sw o e) P := by
  show QW d mLa_law 361 [.val (.ref 0), .val (.ref 13), .val (.ref 193), .val (.ref 224), .val (.int a4), .val (.int a5), .val (.int a6)] [.int s0] (hpo X mem sw o e) P
  refine QW.iload dLa_law_361 rfl ?_
  refine QW.icmp_eq (tgt := 368) dLa_law_363 (by decide) (fun z0 => ?_) (fun z0 => ?_)
  · refine QW.iload dLa_law_368 rfl ?_
    refine QW.if_ne (tgt := 385) dLa_law_370 (by decide) (fun z1 => ?_) (fun z1 => ?_)
    · exact (k1 z0 z1)
    · refine QW.aload_n dLa_law_373 rfl rfl ?_
      refine QW.iconst (v := 0) dLa_law_374 (by decide) ?_
      refine MW.lald hX dLa_law_375 ?_
      refine QW.iload dLa_law_376 rfl ?_
      refine QW.i2l dLa_law_378 ?_
      refine QW.lcmp dLa_law_379 ?_
      refine QW.if_eq (tgt := 385) dLa_law_380 (by decide) (fun z2 => ?_) (fun z2 => ?_)
      · exact (k2 z0 z1 z2)
      · refine QW.iconst (v := 0) dLa_law_383 (by decide) ?_
        exact QW.iret dLa_law_384 rfl rfl (k3 z0 z1 z2)
  · refine QW.iconst (v := 0) dLa_law_366 (by decide) ?_
    exact QW.iret dLa_law_367 rfl rfl (k4 z0)
theorem bLa_law_385 {xs : List Int32} {a4 : Int32} {a5 : Int32} {a6 : Int32} (hX : X.length = 13) (hS : X[0]? = some (80, xs.map Value.int)) (k1 : QW d mLa_law 852 (lLa_law_852 a4 (.val (.int a5)) (.val (.int a6))) [] (hpo X mem sw o e) P) : QW d mLa_law 385 (lLa_law_385 a4 a5 a6) [] (hpo X mem sw o e) P := by
  show QW d mLa_law 385 [.val (.ref 0), .val (.ref 13), .val (.ref 193), .val (.ref 224), .val (.int a4), .val (.int a5), .val (.int a6)] [] (hpo X mem sw o e) P
  refine QW.goto (tgt := 852) dLa_law_385 (by decide) ?_
  exact k1
theorem bLa_law_388 {xs : List Int32} {a4 : Int32} {w5 : Slot} {w6 : Slot} (hX : X.length = 13) (hS : X[0]? = some (80, xs.map Value.int)) (hw5 : qfr w5) (hw6 : qfr w6) (h1 : inx (a4 + 1) xs.length) (h2 : inx (a4 + 2) xs.length) (k3 : QW d mBp_write 0 (qen 3 [.ref 13, .long (((Int32.toInt64 (xs.getD (Int32.toNatClampNeg (a4 + 1)) 0)) <<< ((Int32.toInt64 32) &&& 63)) ||| ((Int32.toInt64 (xs.getD (Int32.toNatClampNeg (a4 + 2)) 0)) &&& 4294967295))]) [] (hpo X mem sw o e) (qcl d mLa_law 411 414 (lLa_law_414 a4 w5 w6) [] P)) : QW (d + 1) mLa_law 388 (lLa_law_388 a4 w5 w6) [] (hpo X mem sw o e) P := by
  show QW (d + 1) mLa_law 388 [.val (.ref 0), .val (.ref 13), .val (.ref 193), .val (.ref 224), .val (.int a4), w5, w6] [] (hpo X mem sw o e) P
  refine QW.aload_n dLa_law_388 rfl rfl ?_
  refine QW.aload_n dLa_law_389 rfl rfl ?_
  refine QW.iload dLa_law_390 rfl ?_
  refine QW.iconst (v := 1) dLa_law_392 (by decide) ?_
  refine QW.iadd dLa_law_393 ?_
  refine MW.sald hS dLa_law_394 h1 ?_
  refine QW.i2l dLa_law_395 ?_
  refine QW.bipush (v := 32) dLa_law_396 (by decide) ?_
  refine QW.lshl dLa_law_398 ?_
  refine QW.aload_n dLa_law_399 rfl rfl ?_
  refine QW.iload dLa_law_400 rfl ?_
  refine QW.iconst (v := 2) dLa_law_402 (by decide) ?_
  refine QW.iadd dLa_law_403 ?_
  refine MW.sald hS dLa_law_404 h2 ?_
  refine QW.i2l dLa_law_405 ?_
  refine QW.ldc2 (v := 4294967295) dLa_law_406 q_clL ?_
  refine QW.land dLa_law_409 ?_
  refine QW.lor dLa_law_410 ?_
  exact MW.calV (as := [.long (((Int32.toInt64 (xs.getD (Int32.toNatClampNeg (a4 + 1)) 0)) <<< ((Int32.toInt64 32) &&& 63)) ||| ((Int32.toInt64 (xs.getD (Int32.toNatClampNeg (a4 + 2)) 0)) &&& 4294967295))]) (rest := []) hX dLa_law_411 eBp_write lLa_81 iBp_write vBp_write rfl rfl rfl rfl rfl rfl (Nat.le_of_ble_eq_true rfl) rfl k3
theorem bLa_law_414 {xs : List Int32} {a4 : Int32} {w5 : Slot} {w6 : Slot} {s0 : Int32} (hX : X.length = 13) (hS : X[0]? = some (80, xs.map Value.int)) (hw5 : qfr w5) (hw6 : qfr w6) (h1 : inx (a4 + 1) xs.length) (h2 : inx (a4 + 2) xs.length) (k3 : QW d mMo_write 0 (qen 6 [.ref 193, .long (((Int32.toInt64 (xs.getD (Int32.toNatClampNeg (a4 + 1)) 0)) <<< ((Int32.toInt64 32) &&& 63)) ||| ((Int32.toInt64 (xs.getD (Int32.toNatClampNeg (a4 + 2)) 0)) &&& 4294967295))]) [] (hpo X mem sw o e) (qcl d mLa_law 437 440 (lLa_law_440 a4 w5 w6) [.int s0] P)) : QW (d + 1) mLa_law 414 (lLa_law_414 a4 w5 w6) [.int s0] (hpo X mem sw o e) P := by
  show QW (d + 1) mLa_law 414 [.val (.ref 0), .val (.ref 13), .val (.ref 193), .val (.ref 224), .val (.int a4), w5, w6] [.int s0] (hpo X mem sw o e) P
  refine QW.aload_n dLa_law_414 rfl rfl ?_
  refine QW.aload_n dLa_law_415 rfl rfl ?_
  refine QW.iload dLa_law_416 rfl ?_
  refine QW.iconst (v := 1) dLa_law_418 (by decide) ?_
  refine QW.iadd dLa_law_419 ?_
  refine MW.sald hS dLa_law_420 h1 ?_
  refine QW.i2l dLa_law_421 ?_
  refine QW.bipush (v := 32) dLa_law_422 (by decide) ?_
  refine QW.lshl dLa_law_424 ?_
  refine QW.aload_n dLa_law_425 rfl rfl ?_
  refine QW.iload dLa_law_426 rfl ?_
  refine QW.iconst (v := 2) dLa_law_428 (by decide) ?_
  refine QW.iadd dLa_law_429 ?_
  refine MW.sald hS dLa_law_430 h2 ?_
  refine QW.i2l dLa_law_431 ?_
  refine QW.ldc2 (v := 4294967295) dLa_law_432 q_clL ?_
  refine QW.land dLa_law_435 ?_
  refine QW.lor dLa_law_436 ?_
  exact MW.calV (as := [.long (((Int32.toInt64 (xs.getD (Int32.toNatClampNeg (a4 + 1)) 0)) <<< ((Int32.toInt64 32) &&& 63)) ||| ((Int32.toInt64 (xs.getD (Int32.toNatClampNeg (a4 + 2)) 0)) &&& 4294967295))]) (rest := [.int s0]) hX dLa_law_437 eMo_write lLa_85 iMo_write vMo_write rfl rfl rfl rfl rfl rfl (Nat.le_of_ble_eq_true rfl) rfl k3
theorem bLa_law_440 {xs : List Int32} {a4 : Int32} {w5 : Slot} {w6 : Slot} {s1 : Int32} {s0 : Int32} (hX : X.length = 13) (hS : X[0]? = some (80, xs.map Value.int)) (hw5 : qfr w5) (hw6 : qfr w6) (k1 : (s0 = s1) → QW d mLa_law 852 (lLa_law_852 a4 w5 w6) [] (hpo X mem sw o e) P) (k2 : (¬ s0 = s1) → P (.inl (some (.int 0)), (hpo X mem sw o e))) : QW d mLa_law 440 (lLa_law_440 a4 w5 w6) [.int s1, .int s0] (hpo X mem sw o e) P := by
  show QW d mLa_law 440 [.val (.ref 0), .val (.ref 13), .val (.ref 193), .val (.ref 224), .val (.int a4), w5, w6] [.int s1, .int s0] (hpo X mem sw o e) P
  refine QW.icmp_eq (tgt := 852) dLa_law_440 (by decide) (fun z0 => ?_) (fun z0 => ?_)
  · exact (k1 z0)
  · refine QW.iconst (v := 0) dLa_law_443 (by decide) ?_
    exact QW.iret dLa_law_444 rfl rfl (k2 z0)
theorem bLa_law_445 {xs : List Int32} {a4 : Int32} {w5 : Slot} {w6 : Slot} (hX : X.length = 13) (hS : X[0]? = some (80, xs.map Value.int)) (hw5 : qfr w5) (hw6 : qfr w6) (k1 : QW d mBp_wipe 0 (qen 1 [.ref 13]) [] (hpo X mem sw o e) (qcl d mLa_law 446 449 (lLa_law_449 a4 w5 w6) [] P)) : QW (d + 1) mLa_law 445 (lLa_law_445 a4 w5 w6) [] (hpo X mem sw o e) P := by
  show QW (d + 1) mLa_law 445 [.val (.ref 0), .val (.ref 13), .val (.ref 193), .val (.ref 224), .val (.int a4), w5, w6] [] (hpo X mem sw o e) P
  refine QW.aload_n dLa_law_445 rfl rfl ?_
  exact MW.calV (as := []) (rest := []) hX dLa_law_446 eBp_wipe lLa_86 iBp_wipe vBp_wipe rfl rfl rfl rfl rfl rfl (Nat.le_of_ble_eq_true rfl) rfl k1
theorem bLa_law_449 {xs : List Int32} {a4 : Int32} {w5 : Slot} {w6 : Slot} {s0 : Int32} (hX : X.length = 13) (hS : X[0]? = some (80, xs.map Value.int)) (hw5 : qfr w5) (hw6 : qfr w6) (k1 : QW d mMo_wipe 0 (qen 2 [.ref 193]) [] (hpo X mem sw o e) (qcl d mLa_law 450 453 (lLa_law_453 a4 w5 w6) [.int s0] P)) : QW (d + 1) mLa_law 449 (lLa_law_449 a4 w5 w6) [.int s0] (hpo X mem sw o e) P := by
  show QW (d + 1) mLa_law 449 [.val (.ref 0), .val (.ref 13), .val (.ref 193), .val (.ref 224), .val (.int a4), w5, w6] [.int s0] (hpo X mem sw o e) P
  refine QW.aload_n dLa_law_449 rfl rfl ?_
  exact MW.calV (as := []) (rest := [.int s0]) hX dLa_law_450 eMo_wipe lLa_89 iMo_wipe vMo_wipe rfl rfl rfl rfl rfl rfl (Nat.le_of_ble_eq_true rfl) rfl k1
theorem bLa_law_453 {xs : List Int32} {a4 : Int32} {w5 : Slot} {w6 : Slot} {s1 : Int32} {s0 : Int32} (hX : X.length = 13) (hS : X[0]? = some (80, xs.map Value.int)) (hw5 : qfr w5) (hw6 : qfr w6) (k1 : (s0 = s1) → QW d mLa_law 852 (lLa_law_852 a4 w5 w6) [] (hpo X mem sw o e) P) (k2 : (¬ s0 = s1) → P (.inl (some (.int 0)), (hpo X mem sw o e))) : QW d mLa_law 453 (lLa_law_453 a4 w5 w6) [.int s1, .int s0] (hpo X mem sw o e) P := by
  show QW d mLa_law 453 [.val (.ref 0), .val (.ref 13), .val (.ref 193), .val (.ref 224), .val (.int a4), w5, w6] [.int s1, .int s0] (hpo X mem sw o e) P
  refine QW.icmp_eq (tgt := 852) dLa_law_453 (by decide) (fun z0 => ?_) (fun z0 => ?_)
  · exact (k1 z0)
  · refine QW.iconst (v := 0) dLa_law_456 (by decide) ?_
    exact QW.iret dLa_law_457 rfl rfl (k2 z0)
theorem bLa_law_458 {xs : List Int32} {a4 : Int32} {w5 : Slot} {w6 : Slot} (hX : X.length = 13) (hS : X[0]? = some (80, xs.map Value.int)) (hw5 : qfr w5) (hw6 : qfr w6) (k1 : QW d mLa_question 0 (qen 3 [.ref 13, .ref 224]) [] (hpo X mem sw o e) (qcl d mLa_law 460 463 (lLa_law_463 a4 w5 w6) [] P)) : QW (d + 1) mLa_law 458 (lLa_law_458 a4 w5 w6) [] (hpo X mem sw o e) P := by
  show QW (d + 1) mLa_law 458 [.val (.ref 0), .val (.ref 13), .val (.ref 193), .val (.ref 224), .val (.int a4), w5, w6] [] (hpo X mem sw o e) P
  refine QW.aload_n dLa_law_458 rfl rfl ?_
  refine QW.aload_n dLa_law_459 rfl rfl ?_
  exact MW.calS (as := [.ref 13, .ref 224]) (rest := []) dLa_law_460 eLa_question lLa_90 sLa_question rfl rfl rfl (Nat.le_of_ble_eq_true rfl) rfl k1
theorem bLa_law_463 {xs : List Int32} {a4 : Int32} {w5 : Slot} {w6 : Slot} {s0 : Int32} (hX : X.length = 13) (hS : X[0]? = some (80, xs.map Value.int)) (hw5 : qfr w5) (hw6 : qfr w6) (k1 : QW d mMo_question 0 (qen 3 [.ref 193]) [] (hpo X mem sw o e) (qcl d mLa_law 466 469 (lLa_law_469 a4 s0 w6) [] P)) : QW (d + 1) mLa_law 463 (lLa_law_463 a4 w5 w6) [.int s0] (hpo X mem sw o e) P := by
  show QW (d + 1) mLa_law 463 [.val (.ref 0), .val (.ref 13), .val (.ref 193), .val (.ref 224), .val (.int a4), w5, w6] [.int s0] (hpo X mem sw o e) P
  refine QW.istore (ls' := [.val (.ref 0), .val (.ref 13), .val (.ref 193), .val (.ref 224), .val (.int a4), .val (.int s0), w6]) dLa_law_463 (by rcases hw5 with z | ⟨_, z⟩ | ⟨_, z⟩ <;> subst z <;> rfl) ?_
  refine QW.aload_n dLa_law_465 rfl rfl ?_
  exact MW.calV (as := []) (rest := []) hX dLa_law_466 eMo_question lLa_93 iMo_question vMo_question rfl rfl rfl rfl rfl rfl (Nat.le_of_ble_eq_true rfl) rfl k1
theorem bLa_law_469 {xs : List Int32} {a4 : Int32} {a5 : Int32} {w6 : Slot} {s0 : Int32} (hX : X.length = 13) (hS : X[0]? = some (80, xs.map Value.int)) (hw6 : qfr w6) (k1 : QW d mMo_thrown 0 (qen 1 [.ref 193]) [] (hpo X mem sw o e) (qcl d mLa_law 472 475 (lLa_law_475 a4 a5 s0) [] P)) : QW (d + 1) mLa_law 469 (lLa_law_469 a4 a5 w6) [.int s0] (hpo X mem sw o e) P := by
  show QW (d + 1) mLa_law 469 [.val (.ref 0), .val (.ref 13), .val (.ref 193), .val (.ref 224), .val (.int a4), .val (.int a5), w6] [.int s0] (hpo X mem sw o e) P
  refine QW.istore (ls' := [.val (.ref 0), .val (.ref 13), .val (.ref 193), .val (.ref 224), .val (.int a4), .val (.int a5), .val (.int s0)]) dLa_law_469 (by rcases hw6 with z | ⟨_, z⟩ | ⟨_, z⟩ <;> subst z <;> rfl) ?_
  refine QW.aload_n dLa_law_471 rfl rfl ?_
  exact MW.calV (as := []) (rest := []) hX dLa_law_472 eMo_thrown lLa_64 iMo_thrown vMo_thrown rfl rfl rfl rfl rfl rfl (Nat.le_of_ble_eq_true rfl) rfl k1
theorem bLa_law_475 {xs : List Int32} {a4 : Int32} {a5 : Int32} {a6 : Int32} {s0 : Int32} (hX : X.length = 13) (hS : X[0]? = some (80, xs.map Value.int)) (k1 : (s0 = a5) → (¬ a5 = 0) → QW d mLa_law 499 (lLa_law_499 a4 a5 a6) [] (hpo X mem sw o e) P) (k2 : (s0 = a5) → (a5 = 0) → ((lg_cmp o (Int32.toInt64 a6)) = 0) → QW d mLa_law 499 (lLa_law_499 a4 a5 a6) [] (hpo X mem sw o e) P) (k3 : (s0 = a5) → (a5 = 0) → (¬ (lg_cmp o (Int32.toInt64 a6)) = 0) → P (.inl (some (.int 0)), (hpo X mem sw o e))) (k4 : (¬ s0 = a5) → P (.inl (some (.int 0)), (hpo X mem sw o e))) : QW d mLa_law 475 (lLa_law_475 a4 a5 a6) [.int s0] (hpo X mem sw o e) P := by
  show QW d mLa_law 475 [.val (.ref 0), .val (.ref 13), .val (.ref 193), .val (.ref 224), .val (.int a4), .val (.int a5), .val (.int a6)] [.int s0] (hpo X mem sw o e) P
  refine QW.iload dLa_law_475 rfl ?_
  refine QW.icmp_eq (tgt := 482) dLa_law_477 (by decide) (fun z0 => ?_) (fun z0 => ?_)
  · refine QW.iload dLa_law_482 rfl ?_
    refine QW.if_ne (tgt := 499) dLa_law_484 (by decide) (fun z1 => ?_) (fun z1 => ?_)
    · exact (k1 z0 z1)
    · refine QW.aload_n dLa_law_487 rfl rfl ?_
      refine QW.iconst (v := 0) dLa_law_488 (by decide) ?_
      refine MW.lald hX dLa_law_489 ?_
      refine QW.iload dLa_law_490 rfl ?_
      refine QW.i2l dLa_law_492 ?_
      refine QW.lcmp dLa_law_493 ?_
      refine QW.if_eq (tgt := 499) dLa_law_494 (by decide) (fun z2 => ?_) (fun z2 => ?_)
      · exact (k2 z0 z1 z2)
      · refine QW.iconst (v := 0) dLa_law_497 (by decide) ?_
        exact QW.iret dLa_law_498 rfl rfl (k3 z0 z1 z2)
  · refine QW.iconst (v := 0) dLa_law_480 (by decide) ?_
    exact QW.iret dLa_law_481 rfl rfl (k4 z0)
theorem bLa_law_499 {xs : List Int32} {a4 : Int32} {a5 : Int32} {a6 : Int32} (hX : X.length = 13) (hS : X[0]? = some (80, xs.map Value.int)) (k1 : QW d mLa_law 852 (lLa_law_852 a4 (.val (.int a5)) (.val (.int a6))) [] (hpo X mem sw o e) P) : QW d mLa_law 499 (lLa_law_499 a4 a5 a6) [] (hpo X mem sw o e) P := by
  show QW d mLa_law 499 [.val (.ref 0), .val (.ref 13), .val (.ref 193), .val (.ref 224), .val (.int a4), .val (.int a5), .val (.int a6)] [] (hpo X mem sw o e) P
  refine QW.goto (tgt := 852) dLa_law_499 (by decide) ?_
  exact k1
theorem bLa_law_502 {xs : List Int32} {a4 : Int32} {w5 : Slot} {w6 : Slot} (hX : X.length = 13) (hS : X[0]? = some (80, xs.map Value.int)) (hw5 : qfr w5) (hw6 : qfr w6) (k1 : QW d mBp_place 0 (qen 1 [.ref 13]) [] (hpo X mem sw o e) (qcl d mLa_law 503 506 (lLa_law_506 a4 w5 w6) [] P)) : QW (d + 1) mLa_law 502 (lLa_law_502 a4 w5 w6) [] (hpo X mem sw o e) P := by
  show QW (d + 1) mLa_law 502 [.val (.ref 0), .val (.ref 13), .val (.ref 193), .val (.ref 224), .val (.int a4), w5, w6] [] (hpo X mem sw o e) P
  refine QW.aload_n dLa_law_502 rfl rfl ?_
  exact MW.calV (as := []) (rest := []) hX dLa_law_503 eBp_place lLa_94 iBp_place vBp_place rfl rfl rfl rfl rfl rfl (Nat.le_of_ble_eq_true rfl) rfl k1
theorem bLa_law_506 {xs : List Int32} {a4 : Int32} {w5 : Slot} {w6 : Slot} {s0 : Int32} (hX : X.length = 13) (hS : X[0]? = some (80, xs.map Value.int)) (hw5 : qfr w5) (hw6 : qfr w6) (k1 : QW d mMo_place 0 (qen 1 [.ref 193]) [] (hpo X mem sw o e) (qcl d mLa_law 507 510 (lLa_law_510 a4 w5 w6) [.int s0] P)) : QW (d + 1) mLa_law 506 (lLa_law_506 a4 w5 w6) [.int s0] (hpo X mem sw o e) P := by
  show QW (d + 1) mLa_law 506 [.val (.ref 0), .val (.ref 13), .val (.ref 193), .val (.ref 224), .val (.int a4), w5, w6] [.int s0] (hpo X mem sw o e) P
  refine QW.aload_n dLa_law_506 rfl rfl ?_
  exact MW.calV (as := []) (rest := [.int s0]) hX dLa_law_507 eMo_place lLa_97 iMo_place vMo_place rfl rfl rfl rfl rfl rfl (Nat.le_of_ble_eq_true rfl) rfl k1
theorem bLa_law_510 {xs : List Int32} {a4 : Int32} {w5 : Slot} {w6 : Slot} {s1 : Int32} {s0 : Int32} (hX : X.length = 13) (hS : X[0]? = some (80, xs.map Value.int)) (hw5 : qfr w5) (hw6 : qfr w6) (k1 : (s0 = s1) → QW d mLa_law 852 (lLa_law_852 a4 w5 w6) [] (hpo X mem sw o e) P) (k2 : (¬ s0 = s1) → P (.inl (some (.int 0)), (hpo X mem sw o e))) : QW d mLa_law 510 (lLa_law_510 a4 w5 w6) [.int s1, .int s0] (hpo X mem sw o e) P := by
  show QW d mLa_law 510 [.val (.ref 0), .val (.ref 13), .val (.ref 193), .val (.ref 224), .val (.int a4), w5, w6] [.int s1, .int s0] (hpo X mem sw o e) P
  refine QW.icmp_eq (tgt := 852) dLa_law_510 (by decide) (fun z0 => ?_) (fun z0 => ?_)
  · exact (k1 z0)
  · refine QW.iconst (v := 0) dLa_law_513 (by decide) ?_
    exact QW.iret dLa_law_514 rfl rfl (k2 z0)
theorem bLa_law_515 {xs : List Int32} {a4 : Int32} {w5 : Slot} {w6 : Slot} (hX : X.length = 13) (hS : X[0]? = some (80, xs.map Value.int)) (hw5 : qfr w5) (hw6 : qfr w6) (k1 : QW d mBp_forget 0 (qen 2 [.ref 13]) [] (hpo X mem sw o e) (qcl d mLa_law 516 519 (lLa_law_519 a4 w5 w6) [] P)) : QW (d + 1) mLa_law 515 (lLa_law_515 a4 w5 w6) [] (hpo X mem sw o e) P := by
  show QW (d + 1) mLa_law 515 [.val (.ref 0), .val (.ref 13), .val (.ref 193), .val (.ref 224), .val (.int a4), w5, w6] [] (hpo X mem sw o e) P
  refine QW.aload_n dLa_law_515 rfl rfl ?_
  exact MW.calV (as := []) (rest := []) hX dLa_law_516 eBp_forget lLa_98 iBp_forget vBp_forget rfl rfl rfl rfl rfl rfl (Nat.le_of_ble_eq_true rfl) rfl k1
theorem bLa_law_519 {xs : List Int32} {a4 : Int32} {w5 : Slot} {w6 : Slot} {s0 : Int32} (hX : X.length = 13) (hS : X[0]? = some (80, xs.map Value.int)) (hw5 : qfr w5) (hw6 : qfr w6) (k1 : QW d mMo_forget 0 (qen 2 [.ref 193]) [] (hpo X mem sw o e) (qcl d mLa_law 520 523 (lLa_law_523 a4 w5 w6) [.int s0] P)) : QW (d + 1) mLa_law 519 (lLa_law_519 a4 w5 w6) [.int s0] (hpo X mem sw o e) P := by
  show QW (d + 1) mLa_law 519 [.val (.ref 0), .val (.ref 13), .val (.ref 193), .val (.ref 224), .val (.int a4), w5, w6] [.int s0] (hpo X mem sw o e) P
  refine QW.aload_n dLa_law_519 rfl rfl ?_
  exact MW.calV (as := []) (rest := [.int s0]) hX dLa_law_520 eMo_forget lLa_101 iMo_forget vMo_forget rfl rfl rfl rfl rfl rfl (Nat.le_of_ble_eq_true rfl) rfl k1
theorem bLa_law_523 {xs : List Int32} {a4 : Int32} {w5 : Slot} {w6 : Slot} {s1 : Int32} {s0 : Int32} (hX : X.length = 13) (hS : X[0]? = some (80, xs.map Value.int)) (hw5 : qfr w5) (hw6 : qfr w6) (k1 : (s0 = s1) → QW d mLa_law 852 (lLa_law_852 a4 w5 w6) [] (hpo X mem sw o e) P) (k2 : (¬ s0 = s1) → P (.inl (some (.int 0)), (hpo X mem sw o e))) : QW d mLa_law 523 (lLa_law_523 a4 w5 w6) [.int s1, .int s0] (hpo X mem sw o e) P := by
  show QW d mLa_law 523 [.val (.ref 0), .val (.ref 13), .val (.ref 193), .val (.ref 224), .val (.int a4), w5, w6] [.int s1, .int s0] (hpo X mem sw o e) P
  refine QW.icmp_eq (tgt := 852) dLa_law_523 (by decide) (fun z0 => ?_) (fun z0 => ?_)
  · exact (k1 z0)
  · refine QW.iconst (v := 0) dLa_law_526 (by decide) ?_
    exact QW.iret dLa_law_527 rfl rfl (k2 z0)
theorem bLa_law_528 {xs : List Int32} {a4 : Int32} {w5 : Slot} {w6 : Slot} (hX : X.length = 13) (hS : X[0]? = some (80, xs.map Value.int)) (hw5 : qfr w5) (hw6 : qfr w6) (h1 : inx (a4 + 1) xs.length) (k2 : QW d mLa_run 0 (qen 4 [.ref 13, .int (xs.getD (Int32.toNatClampNeg (a4 + 1)) 0), .ref 224]) [] (hpo X mem sw o e) (qcl d mLa_law 536 539 (lLa_law_539 a4 w5 w6) [] P)) : QW (d + 1) mLa_law 528 (lLa_law_528 a4 w5 w6) [] (hpo X mem sw o e) P := by
  show QW (d + 1) mLa_law 528 [.val (.ref 0), .val (.ref 13), .val (.ref 193), .val (.ref 224), .val (.int a4), w5, w6] [] (hpo X mem sw o e) P
  refine QW.aload_n dLa_law_528 rfl rfl ?_
  refine QW.aload_n dLa_law_529 rfl rfl ?_
  refine QW.iload dLa_law_530 rfl ?_
  refine QW.iconst (v := 1) dLa_law_532 (by decide) ?_
  refine QW.iadd dLa_law_533 ?_
  refine MW.sald hS dLa_law_534 h1 ?_
  refine QW.aload_n dLa_law_535 rfl rfl ?_
  exact MW.calS (as := [.ref 13, .int (xs.getD (Int32.toNatClampNeg (a4 + 1)) 0), .ref 224]) (rest := []) dLa_law_536 eLa_run lLa_102 sLa_run rfl rfl rfl (Nat.le_of_ble_eq_true rfl) rfl k2
theorem bLa_law_539 {xs : List Int32} {a4 : Int32} {w5 : Slot} {w6 : Slot} {s0 : Int32} (hX : X.length = 13) (hS : X[0]? = some (80, xs.map Value.int)) (hw5 : qfr w5) (hw6 : qfr w6) (h1 : inx (a4 + 1) xs.length) (k2 : QW d mMo_run 0 (qen 3 [.ref 193, .int (xs.getD (Int32.toNatClampNeg (a4 + 1)) 0)]) [] (hpo X mem sw o e) (qcl d mLa_law 548 551 (lLa_law_551 a4 s0 w6) [] P)) : QW (d + 1) mLa_law 539 (lLa_law_539 a4 w5 w6) [.int s0] (hpo X mem sw o e) P := by
  show QW (d + 1) mLa_law 539 [.val (.ref 0), .val (.ref 13), .val (.ref 193), .val (.ref 224), .val (.int a4), w5, w6] [.int s0] (hpo X mem sw o e) P
  refine QW.istore (ls' := [.val (.ref 0), .val (.ref 13), .val (.ref 193), .val (.ref 224), .val (.int a4), .val (.int s0), w6]) dLa_law_539 (by rcases hw5 with z | ⟨_, z⟩ | ⟨_, z⟩ <;> subst z <;> rfl) ?_
  refine QW.aload_n dLa_law_541 rfl rfl ?_
  refine QW.aload_n dLa_law_542 rfl rfl ?_
  refine QW.iload dLa_law_543 rfl ?_
  refine QW.iconst (v := 1) dLa_law_545 (by decide) ?_
  refine QW.iadd dLa_law_546 ?_
  refine MW.sald hS dLa_law_547 h1 ?_
  exact MW.calV (as := [.int (xs.getD (Int32.toNatClampNeg (a4 + 1)) 0)]) (rest := []) hX dLa_law_548 eMo_run lLa_104 iMo_run vMo_run rfl rfl rfl rfl rfl rfl (Nat.le_of_ble_eq_true rfl) rfl k2
theorem bLa_law_551 {xs : List Int32} {a4 : Int32} {a5 : Int32} {w6 : Slot} {s0 : Int32} (hX : X.length = 13) (hS : X[0]? = some (80, xs.map Value.int)) (hw6 : qfr w6) (k1 : QW d mMo_thrown 0 (qen 1 [.ref 193]) [] (hpo X mem sw o e) (qcl d mLa_law 554 557 (lLa_law_557 a4 a5 s0) [] P)) : QW (d + 1) mLa_law 551 (lLa_law_551 a4 a5 w6) [.int s0] (hpo X mem sw o e) P := by
  show QW (d + 1) mLa_law 551 [.val (.ref 0), .val (.ref 13), .val (.ref 193), .val (.ref 224), .val (.int a4), .val (.int a5), w6] [.int s0] (hpo X mem sw o e) P
  refine QW.istore (ls' := [.val (.ref 0), .val (.ref 13), .val (.ref 193), .val (.ref 224), .val (.int a4), .val (.int a5), .val (.int s0)]) dLa_law_551 (by rcases hw6 with z | ⟨_, z⟩ | ⟨_, z⟩ <;> subst z <;> rfl) ?_
  refine QW.aload_n dLa_law_553 rfl rfl ?_
  exact MW.calV (as := []) (rest := []) hX dLa_law_554 eMo_thrown lLa_64 iMo_thrown vMo_thrown rfl rfl rfl rfl rfl rfl (Nat.le_of_ble_eq_true rfl) rfl k1
theorem bLa_law_557 {xs : List Int32} {a4 : Int32} {a5 : Int32} {a6 : Int32} {s0 : Int32} (hX : X.length = 13) (hS : X[0]? = some (80, xs.map Value.int)) (k1 : (s0 = a5) → (¬ a5 = 0) → QW d mLa_law 581 (lLa_law_581 a4 a5 a6) [] (hpo X mem sw o e) P) (k2 : (s0 = a5) → (a5 = 0) → ((lg_cmp o (Int32.toInt64 a6)) = 0) → QW d mLa_law 581 (lLa_law_581 a4 a5 a6) [] (hpo X mem sw o e) P) (k3 : (s0 = a5) → (a5 = 0) → (¬ (lg_cmp o (Int32.toInt64 a6)) = 0) → P (.inl (some (.int 0)), (hpo X mem sw o e))) (k4 : (¬ s0 = a5) → P (.inl (some (.int 0)), (hpo X mem sw o e))) : QW d mLa_law 557 (lLa_law_557 a4 a5 a6) [.int s0] (hpo X mem sw o e) P := by
  show QW d mLa_law 557 [.val (.ref 0), .val (.ref 13), .val (.ref 193), .val (.ref 224), .val (.int a4), .val (.int a5), .val (.int a6)] [.int s0] (hpo X mem sw o e) P
  refine QW.iload dLa_law_557 rfl ?_
  refine QW.icmp_eq (tgt := 564) dLa_law_559 (by decide) (fun z0 => ?_) (fun z0 => ?_)
  · refine QW.iload dLa_law_564 rfl ?_
    refine QW.if_ne (tgt := 581) dLa_law_566 (by decide) (fun z1 => ?_) (fun z1 => ?_)
    · exact (k1 z0 z1)
    · refine QW.aload_n dLa_law_569 rfl rfl ?_
      refine QW.iconst (v := 0) dLa_law_570 (by decide) ?_
      refine MW.lald hX dLa_law_571 ?_
      refine QW.iload dLa_law_572 rfl ?_
      refine QW.i2l dLa_law_574 ?_
      refine QW.lcmp dLa_law_575 ?_
      refine QW.if_eq (tgt := 581) dLa_law_576 (by decide) (fun z2 => ?_) (fun z2 => ?_)
      · exact (k2 z0 z1 z2)
      · refine QW.iconst (v := 0) dLa_law_579 (by decide) ?_
        exact QW.iret dLa_law_580 rfl rfl (k3 z0 z1 z2)
  · refine QW.iconst (v := 0) dLa_law_562 (by decide) ?_
    exact QW.iret dLa_law_563 rfl rfl (k4 z0)
theorem bLa_law_581 {xs : List Int32} {a4 : Int32} {a5 : Int32} {a6 : Int32} (hX : X.length = 13) (hS : X[0]? = some (80, xs.map Value.int)) (k1 : QW d mLa_law 852 (lLa_law_852 a4 (.val (.int a5)) (.val (.int a6))) [] (hpo X mem sw o e) P) : QW d mLa_law 581 (lLa_law_581 a4 a5 a6) [] (hpo X mem sw o e) P := by
  show QW d mLa_law 581 [.val (.ref 0), .val (.ref 13), .val (.ref 193), .val (.ref 224), .val (.int a4), .val (.int a5), .val (.int a6)] [] (hpo X mem sw o e) P
  refine QW.goto (tgt := 852) dLa_law_581 (by decide) ?_
  exact k1
theorem bLa_law_584 {xs : List Int32} {a4 : Int32} {w5 : Slot} {w6 : Slot} (hX : X.length = 13) (hS : X[0]? = some (80, xs.map Value.int)) (hw5 : qfr w5) (hw6 : qfr w6) (h1 : inx (a4 + 1) xs.length) (h2 : inx (a4 + 2) xs.length) (k3 : QW d mLa_row 0 (qen 5 [.ref 13, .int (xs.getD (Int32.toNatClampNeg (a4 + 1)) 0), .int (xs.getD (Int32.toNatClampNeg (a4 + 2)) 0), .ref 224]) [] (hpo X mem sw o e) (qcl d mLa_law 598 601 (lLa_law_601 a4 w5 w6) [] P)) : QW (d + 1) mLa_law 584 (lLa_law_584 a4 w5 w6) [] (hpo X mem sw o e) P := by
  show QW (d + 1) mLa_law 584 [.val (.ref 0), .val (.ref 13), .val (.ref 193), .val (.ref 224), .val (.int a4), w5, w6] [] (hpo X mem sw o e) P
  refine QW.aload_n dLa_law_584 rfl rfl ?_
  refine QW.aload_n dLa_law_585 rfl rfl ?_
  refine QW.iload dLa_law_586 rfl ?_
  refine QW.iconst (v := 1) dLa_law_588 (by decide) ?_
  refine QW.iadd dLa_law_589 ?_
  refine MW.sald hS dLa_law_590 h1 ?_
  refine QW.aload_n dLa_law_591 rfl rfl ?_
  refine QW.iload dLa_law_592 rfl ?_
  refine QW.iconst (v := 2) dLa_law_594 (by decide) ?_
  refine QW.iadd dLa_law_595 ?_
  refine MW.sald hS dLa_law_596 h2 ?_
  refine QW.aload_n dLa_law_597 rfl rfl ?_
  exact MW.calS (as := [.ref 13, .int (xs.getD (Int32.toNatClampNeg (a4 + 1)) 0), .int (xs.getD (Int32.toNatClampNeg (a4 + 2)) 0), .ref 224]) (rest := []) dLa_law_598 eLa_row lLa_105 sLa_row rfl rfl rfl (Nat.le_of_ble_eq_true rfl) rfl k3
theorem bLa_law_601 {xs : List Int32} {a4 : Int32} {w5 : Slot} {w6 : Slot} {s0 : Int32} (hX : X.length = 13) (hS : X[0]? = some (80, xs.map Value.int)) (hw5 : qfr w5) (hw6 : qfr w6) (h1 : inx (a4 + 1) xs.length) (h2 : inx (a4 + 2) xs.length) (k3 : QW d mMo_row 0 (qen 3 [.ref 193, .int (xs.getD (Int32.toNatClampNeg (a4 + 1)) 0), .int (xs.getD (Int32.toNatClampNeg (a4 + 2)) 0)]) [] (hpo X mem sw o e) (qcl d mLa_law 616 619 (lLa_law_619 a4 s0 w6) [] P)) : QW (d + 1) mLa_law 601 (lLa_law_601 a4 w5 w6) [.int s0] (hpo X mem sw o e) P := by
  show QW (d + 1) mLa_law 601 [.val (.ref 0), .val (.ref 13), .val (.ref 193), .val (.ref 224), .val (.int a4), w5, w6] [.int s0] (hpo X mem sw o e) P
  refine QW.istore (ls' := [.val (.ref 0), .val (.ref 13), .val (.ref 193), .val (.ref 224), .val (.int a4), .val (.int s0), w6]) dLa_law_601 (by rcases hw5 with z | ⟨_, z⟩ | ⟨_, z⟩ <;> subst z <;> rfl) ?_
  refine QW.aload_n dLa_law_603 rfl rfl ?_
  refine QW.aload_n dLa_law_604 rfl rfl ?_
  refine QW.iload dLa_law_605 rfl ?_
  refine QW.iconst (v := 1) dLa_law_607 (by decide) ?_
  refine QW.iadd dLa_law_608 ?_
  refine MW.sald hS dLa_law_609 h1 ?_
  refine QW.aload_n dLa_law_610 rfl rfl ?_
  refine QW.iload dLa_law_611 rfl ?_
  refine QW.iconst (v := 2) dLa_law_613 (by decide) ?_
  refine QW.iadd dLa_law_614 ?_
  refine MW.sald hS dLa_law_615 h2 ?_
  exact MW.calV (as := [.int (xs.getD (Int32.toNatClampNeg (a4 + 1)) 0), .int (xs.getD (Int32.toNatClampNeg (a4 + 2)) 0)]) (rest := []) hX dLa_law_616 eMo_row lLa_108 iMo_row vMo_row rfl rfl rfl rfl rfl rfl (Nat.le_of_ble_eq_true rfl) rfl k3
theorem bLa_law_619 {xs : List Int32} {a4 : Int32} {a5 : Int32} {w6 : Slot} {s0 : Int32} (hX : X.length = 13) (hS : X[0]? = some (80, xs.map Value.int)) (hw6 : qfr w6) (k1 : QW d mMo_thrown 0 (qen 1 [.ref 193]) [] (hpo X mem sw o e) (qcl d mLa_law 622 625 (lLa_law_625 a4 a5 s0) [] P)) : QW (d + 1) mLa_law 619 (lLa_law_619 a4 a5 w6) [.int s0] (hpo X mem sw o e) P := by
  show QW (d + 1) mLa_law 619 [.val (.ref 0), .val (.ref 13), .val (.ref 193), .val (.ref 224), .val (.int a4), .val (.int a5), w6] [.int s0] (hpo X mem sw o e) P
  refine QW.istore (ls' := [.val (.ref 0), .val (.ref 13), .val (.ref 193), .val (.ref 224), .val (.int a4), .val (.int a5), .val (.int s0)]) dLa_law_619 (by rcases hw6 with z | ⟨_, z⟩ | ⟨_, z⟩ <;> subst z <;> rfl) ?_
  refine QW.aload_n dLa_law_621 rfl rfl ?_
  exact MW.calV (as := []) (rest := []) hX dLa_law_622 eMo_thrown lLa_64 iMo_thrown vMo_thrown rfl rfl rfl rfl rfl rfl (Nat.le_of_ble_eq_true rfl) rfl k1
theorem bLa_law_625 {xs : List Int32} {a4 : Int32} {a5 : Int32} {a6 : Int32} {s0 : Int32} (hX : X.length = 13) (hS : X[0]? = some (80, xs.map Value.int)) (k1 : (s0 = a5) → (¬ a5 = 0) → QW d mLa_law 649 (lLa_law_649 a4 a5 a6) [] (hpo X mem sw o e) P) (k2 : (s0 = a5) → (a5 = 0) → ((lg_cmp o (Int32.toInt64 a6)) = 0) → QW d mLa_law 649 (lLa_law_649 a4 a5 a6) [] (hpo X mem sw o e) P) (k3 : (s0 = a5) → (a5 = 0) → (¬ (lg_cmp o (Int32.toInt64 a6)) = 0) → P (.inl (some (.int 0)), (hpo X mem sw o e))) (k4 : (¬ s0 = a5) → P (.inl (some (.int 0)), (hpo X mem sw o e))) : QW d mLa_law 625 (lLa_law_625 a4 a5 a6) [.int s0] (hpo X mem sw o e) P := by
  show QW d mLa_law 625 [.val (.ref 0), .val (.ref 13), .val (.ref 193), .val (.ref 224), .val (.int a4), .val (.int a5), .val (.int a6)] [.int s0] (hpo X mem sw o e) P
  refine QW.iload dLa_law_625 rfl ?_
  refine QW.icmp_eq (tgt := 632) dLa_law_627 (by decide) (fun z0 => ?_) (fun z0 => ?_)
  · refine QW.iload dLa_law_632 rfl ?_
    refine QW.if_ne (tgt := 649) dLa_law_634 (by decide) (fun z1 => ?_) (fun z1 => ?_)
    · exact (k1 z0 z1)
    · refine QW.aload_n dLa_law_637 rfl rfl ?_
      refine QW.iconst (v := 0) dLa_law_638 (by decide) ?_
      refine MW.lald hX dLa_law_639 ?_
      refine QW.iload dLa_law_640 rfl ?_
      refine QW.i2l dLa_law_642 ?_
      refine QW.lcmp dLa_law_643 ?_
      refine QW.if_eq (tgt := 649) dLa_law_644 (by decide) (fun z2 => ?_) (fun z2 => ?_)
      · exact (k2 z0 z1 z2)
      · refine QW.iconst (v := 0) dLa_law_647 (by decide) ?_
        exact QW.iret dLa_law_648 rfl rfl (k3 z0 z1 z2)
  · refine QW.iconst (v := 0) dLa_law_630 (by decide) ?_
    exact QW.iret dLa_law_631 rfl rfl (k4 z0)
theorem bLa_law_649 {xs : List Int32} {a4 : Int32} {a5 : Int32} {a6 : Int32} (hX : X.length = 13) (hS : X[0]? = some (80, xs.map Value.int)) (k1 : QW d mLa_law 852 (lLa_law_852 a4 (.val (.int a5)) (.val (.int a6))) [] (hpo X mem sw o e) P) : QW d mLa_law 649 (lLa_law_649 a4 a5 a6) [] (hpo X mem sw o e) P := by
  show QW d mLa_law 649 [.val (.ref 0), .val (.ref 13), .val (.ref 193), .val (.ref 224), .val (.int a4), .val (.int a5), .val (.int a6)] [] (hpo X mem sw o e) P
  refine QW.goto (tgt := 852) dLa_law_649 (by decide) ?_
  exact k1
theorem bLa_law_652 {xs : List Int32} {a4 : Int32} {w5 : Slot} {w6 : Slot} (hX : X.length = 13) (hS : X[0]? = some (80, xs.map Value.int)) (hw5 : qfr w5) (hw6 : qfr w6) (h1 : inx (a4 + 1) xs.length) (k2 : QW d mLa_times 0 (qen 4 [.ref 13, .int (xs.getD (Int32.toNatClampNeg (a4 + 1)) 0), .ref 224]) [] (hpo X mem sw o e) (qcl d mLa_law 660 663 (lLa_law_663 a4 w5 w6) [] P)) : QW (d + 1) mLa_law 652 (lLa_law_652 a4 w5 w6) [] (hpo X mem sw o e) P := by
  show QW (d + 1) mLa_law 652 [.val (.ref 0), .val (.ref 13), .val (.ref 193), .val (.ref 224), .val (.int a4), w5, w6] [] (hpo X mem sw o e) P
  refine QW.aload_n dLa_law_652 rfl rfl ?_
  refine QW.aload_n dLa_law_653 rfl rfl ?_
  refine QW.iload dLa_law_654 rfl ?_
  refine QW.iconst (v := 1) dLa_law_656 (by decide) ?_
  refine QW.iadd dLa_law_657 ?_
  refine MW.sald hS dLa_law_658 h1 ?_
  refine QW.aload_n dLa_law_659 rfl rfl ?_
  exact MW.calS (as := [.ref 13, .int (xs.getD (Int32.toNatClampNeg (a4 + 1)) 0), .ref 224]) (rest := []) dLa_law_660 eLa_times lLa_109 sLa_times rfl rfl rfl (Nat.le_of_ble_eq_true rfl) rfl k2
theorem bLa_law_663 {xs : List Int32} {a4 : Int32} {w5 : Slot} {w6 : Slot} {s0 : Int32} (hX : X.length = 13) (hS : X[0]? = some (80, xs.map Value.int)) (hw5 : qfr w5) (hw6 : qfr w6) (h1 : inx (a4 + 1) xs.length) (k2 : QW d mMo_times 0 (qen 2 [.ref 193, .int (xs.getD (Int32.toNatClampNeg (a4 + 1)) 0)]) [] (hpo X mem sw o e) (qcl d mLa_law 672 675 (lLa_law_675 a4 s0 w6) [] P)) : QW (d + 1) mLa_law 663 (lLa_law_663 a4 w5 w6) [.int s0] (hpo X mem sw o e) P := by
  show QW (d + 1) mLa_law 663 [.val (.ref 0), .val (.ref 13), .val (.ref 193), .val (.ref 224), .val (.int a4), w5, w6] [.int s0] (hpo X mem sw o e) P
  refine QW.istore (ls' := [.val (.ref 0), .val (.ref 13), .val (.ref 193), .val (.ref 224), .val (.int a4), .val (.int s0), w6]) dLa_law_663 (by rcases hw5 with z | ⟨_, z⟩ | ⟨_, z⟩ <;> subst z <;> rfl) ?_
  refine QW.aload_n dLa_law_665 rfl rfl ?_
  refine QW.aload_n dLa_law_666 rfl rfl ?_
  refine QW.iload dLa_law_667 rfl ?_
  refine QW.iconst (v := 1) dLa_law_669 (by decide) ?_
  refine QW.iadd dLa_law_670 ?_
  refine MW.sald hS dLa_law_671 h1 ?_
  exact MW.calV (as := [.int (xs.getD (Int32.toNatClampNeg (a4 + 1)) 0)]) (rest := []) hX dLa_law_672 eMo_times lLa_111 iMo_times vMo_times rfl rfl rfl rfl rfl rfl (Nat.le_of_ble_eq_true rfl) rfl k2
theorem bLa_law_675 {xs : List Int32} {a4 : Int32} {a5 : Int32} {w6 : Slot} {s0 : Int32} (hX : X.length = 13) (hS : X[0]? = some (80, xs.map Value.int)) (hw6 : qfr w6) (k1 : QW d mMo_thrown 0 (qen 1 [.ref 193]) [] (hpo X mem sw o e) (qcl d mLa_law 678 681 (lLa_law_681 a4 a5 s0) [] P)) : QW (d + 1) mLa_law 675 (lLa_law_675 a4 a5 w6) [.int s0] (hpo X mem sw o e) P := by
  show QW (d + 1) mLa_law 675 [.val (.ref 0), .val (.ref 13), .val (.ref 193), .val (.ref 224), .val (.int a4), .val (.int a5), w6] [.int s0] (hpo X mem sw o e) P
  refine QW.istore (ls' := [.val (.ref 0), .val (.ref 13), .val (.ref 193), .val (.ref 224), .val (.int a4), .val (.int a5), .val (.int s0)]) dLa_law_675 (by rcases hw6 with z | ⟨_, z⟩ | ⟨_, z⟩ <;> subst z <;> rfl) ?_
  refine QW.aload_n dLa_law_677 rfl rfl ?_
  exact MW.calV (as := []) (rest := []) hX dLa_law_678 eMo_thrown lLa_64 iMo_thrown vMo_thrown rfl rfl rfl rfl rfl rfl (Nat.le_of_ble_eq_true rfl) rfl k1
theorem bLa_law_681 {xs : List Int32} {a4 : Int32} {a5 : Int32} {a6 : Int32} {s0 : Int32} (hX : X.length = 13) (hS : X[0]? = some (80, xs.map Value.int)) (k1 : (s0 = a5) → (¬ a5 = 0) → QW d mLa_law 705 (lLa_law_705 a4 a5 a6) [] (hpo X mem sw o e) P) (k2 : (s0 = a5) → (a5 = 0) → ((lg_cmp o (Int32.toInt64 a6)) = 0) → QW d mLa_law 705 (lLa_law_705 a4 a5 a6) [] (hpo X mem sw o e) P) (k3 : (s0 = a5) → (a5 = 0) → (¬ (lg_cmp o (Int32.toInt64 a6)) = 0) → P (.inl (some (.int 0)), (hpo X mem sw o e))) (k4 : (¬ s0 = a5) → P (.inl (some (.int 0)), (hpo X mem sw o e))) : QW d mLa_law 681 (lLa_law_681 a4 a5 a6) [.int s0] (hpo X mem sw o e) P := by
  show QW d mLa_law 681 [.val (.ref 0), .val (.ref 13), .val (.ref 193), .val (.ref 224), .val (.int a4), .val (.int a5), .val (.int a6)] [.int s0] (hpo X mem sw o e) P
  refine QW.iload dLa_law_681 rfl ?_
  refine QW.icmp_eq (tgt := 688) dLa_law_683 (by decide) (fun z0 => ?_) (fun z0 => ?_)
  · refine QW.iload dLa_law_688 rfl ?_
    refine QW.if_ne (tgt := 705) dLa_law_690 (by decide) (fun z1 => ?_) (fun z1 => ?_)
    · exact (k1 z0 z1)
    · refine QW.aload_n dLa_law_693 rfl rfl ?_
      refine QW.iconst (v := 0) dLa_law_694 (by decide) ?_
      refine MW.lald hX dLa_law_695 ?_
      refine QW.iload dLa_law_696 rfl ?_
      refine QW.i2l dLa_law_698 ?_
      refine QW.lcmp dLa_law_699 ?_
      refine QW.if_eq (tgt := 705) dLa_law_700 (by decide) (fun z2 => ?_) (fun z2 => ?_)
      · exact (k2 z0 z1 z2)
      · refine QW.iconst (v := 0) dLa_law_703 (by decide) ?_
        exact QW.iret dLa_law_704 rfl rfl (k3 z0 z1 z2)
  · refine QW.iconst (v := 0) dLa_law_686 (by decide) ?_
    exact QW.iret dLa_law_687 rfl rfl (k4 z0)
theorem bLa_law_705 {xs : List Int32} {a4 : Int32} {a5 : Int32} {a6 : Int32} (hX : X.length = 13) (hS : X[0]? = some (80, xs.map Value.int)) (k1 : QW d mLa_law 852 (lLa_law_852 a4 (.val (.int a5)) (.val (.int a6))) [] (hpo X mem sw o e) P) : QW d mLa_law 705 (lLa_law_705 a4 a5 a6) [] (hpo X mem sw o e) P := by
  show QW d mLa_law 705 [.val (.ref 0), .val (.ref 13), .val (.ref 193), .val (.ref 224), .val (.int a4), .val (.int a5), .val (.int a6)] [] (hpo X mem sw o e) P
  refine QW.goto (tgt := 852) dLa_law_705 (by decide) ?_
  exact k1
theorem bLa_law_708 {xs : List Int32} {a4 : Int32} {w5 : Slot} {w6 : Slot} (hX : X.length = 13) (hS : X[0]? = some (80, xs.map Value.int)) (hw5 : qfr w5) (hw6 : qfr w6) (k1 : QW d mBp_total 0 (qen 1 [.ref 13]) [] (hpo X mem sw o e) (qcl d mLa_law 709 712 (lLa_law_712 a4 w5 w6) [] P)) : QW (d + 1) mLa_law 708 (lLa_law_708 a4 w5 w6) [] (hpo X mem sw o e) P := by
  show QW (d + 1) mLa_law 708 [.val (.ref 0), .val (.ref 13), .val (.ref 193), .val (.ref 224), .val (.int a4), w5, w6] [] (hpo X mem sw o e) P
  refine QW.aload_n dLa_law_708 rfl rfl ?_
  exact MW.calV (as := []) (rest := []) hX dLa_law_709 eBp_total lLa_112 iBp_total vBp_total rfl rfl rfl rfl rfl rfl (Nat.le_of_ble_eq_true rfl) rfl k1
theorem bLa_law_712 {xs : List Int32} {a4 : Int32} {w5 : Slot} {w6 : Slot} {s0 : Int32} (hX : X.length = 13) (hS : X[0]? = some (80, xs.map Value.int)) (hw5 : qfr w5) (hw6 : qfr w6) (k1 : QW d mMo_total 0 (qen 3 [.ref 193]) [] (hpo X mem sw o e) (qcl d mLa_law 713 716 (lLa_law_716 a4 w5 w6) [.int s0] P)) : QW (d + 1) mLa_law 712 (lLa_law_712 a4 w5 w6) [.int s0] (hpo X mem sw o e) P := by
  show QW (d + 1) mLa_law 712 [.val (.ref 0), .val (.ref 13), .val (.ref 193), .val (.ref 224), .val (.int a4), w5, w6] [.int s0] (hpo X mem sw o e) P
  refine QW.aload_n dLa_law_712 rfl rfl ?_
  exact MW.calV (as := []) (rest := [.int s0]) hX dLa_law_713 eMo_total lLa_115 iMo_total vMo_total rfl rfl rfl rfl rfl rfl (Nat.le_of_ble_eq_true rfl) rfl k1
theorem bLa_law_716 {xs : List Int32} {a4 : Int32} {w5 : Slot} {w6 : Slot} {s1 : Int32} {s0 : Int32} (hX : X.length = 13) (hS : X[0]? = some (80, xs.map Value.int)) (hw5 : qfr w5) (hw6 : qfr w6) (k1 : (s0 = s1) → QW d mLa_law 852 (lLa_law_852 a4 w5 w6) [] (hpo X mem sw o e) P) (k2 : (¬ s0 = s1) → P (.inl (some (.int 0)), (hpo X mem sw o e))) : QW d mLa_law 716 (lLa_law_716 a4 w5 w6) [.int s1, .int s0] (hpo X mem sw o e) P := by
  show QW d mLa_law 716 [.val (.ref 0), .val (.ref 13), .val (.ref 193), .val (.ref 224), .val (.int a4), w5, w6] [.int s1, .int s0] (hpo X mem sw o e) P
  refine QW.icmp_eq (tgt := 852) dLa_law_716 (by decide) (fun z0 => ?_) (fun z0 => ?_)
  · exact (k1 z0)
  · refine QW.iconst (v := 0) dLa_law_719 (by decide) ?_
    exact QW.iret dLa_law_720 rfl rfl (k2 z0)
theorem bLa_law_721 {xs : List Int32} {a4 : Int32} {w5 : Slot} {w6 : Slot} (hX : X.length = 13) (hS : X[0]? = some (80, xs.map Value.int)) (hw5 : qfr w5) (hw6 : qfr w6) (h1 : inx (a4 + 1) xs.length) (h2 : inx (a4 + 2) xs.length) (k3 : QW d mLa_alike 0 (qen 5 [.ref 13, .int (xs.getD (Int32.toNatClampNeg (a4 + 1)) 0), .int (xs.getD (Int32.toNatClampNeg (a4 + 2)) 0), .ref 224]) [] (hpo X mem sw o e) (qcl d mLa_law 735 738 (lLa_law_738 a4 w5 w6) [] P)) : QW (d + 1) mLa_law 721 (lLa_law_721 a4 w5 w6) [] (hpo X mem sw o e) P := by
  show QW (d + 1) mLa_law 721 [.val (.ref 0), .val (.ref 13), .val (.ref 193), .val (.ref 224), .val (.int a4), w5, w6] [] (hpo X mem sw o e) P
  refine QW.aload_n dLa_law_721 rfl rfl ?_
  refine QW.aload_n dLa_law_722 rfl rfl ?_
  refine QW.iload dLa_law_723 rfl ?_
  refine QW.iconst (v := 1) dLa_law_725 (by decide) ?_
  refine QW.iadd dLa_law_726 ?_
  refine MW.sald hS dLa_law_727 h1 ?_
  refine QW.aload_n dLa_law_728 rfl rfl ?_
  refine QW.iload dLa_law_729 rfl ?_
  refine QW.iconst (v := 2) dLa_law_731 (by decide) ?_
  refine QW.iadd dLa_law_732 ?_
  refine MW.sald hS dLa_law_733 h2 ?_
  refine QW.aload_n dLa_law_734 rfl rfl ?_
  exact MW.calS (as := [.ref 13, .int (xs.getD (Int32.toNatClampNeg (a4 + 1)) 0), .int (xs.getD (Int32.toNatClampNeg (a4 + 2)) 0), .ref 224]) (rest := []) dLa_law_735 eLa_alike lLa_116 sLa_alike rfl rfl rfl (Nat.le_of_ble_eq_true rfl) rfl k3
theorem bLa_law_738 {xs : List Int32} {a4 : Int32} {w5 : Slot} {w6 : Slot} {s0 : Int32} (hX : X.length = 13) (hS : X[0]? = some (80, xs.map Value.int)) (hw5 : qfr w5) (hw6 : qfr w6) (h1 : inx (a4 + 1) xs.length) (h2 : inx (a4 + 2) xs.length) (k3 : QW d mMo_alike 0 (qen 8 [.ref 193, .int (xs.getD (Int32.toNatClampNeg (a4 + 1)) 0), .int (xs.getD (Int32.toNatClampNeg (a4 + 2)) 0)]) [] (hpo X mem sw o e) (qcl d mLa_law 753 756 (lLa_law_756 a4 s0 w6) [] P)) : QW (d + 1) mLa_law 738 (lLa_law_738 a4 w5 w6) [.int s0] (hpo X mem sw o e) P := by
  show QW (d + 1) mLa_law 738 [.val (.ref 0), .val (.ref 13), .val (.ref 193), .val (.ref 224), .val (.int a4), w5, w6] [.int s0] (hpo X mem sw o e) P
  refine QW.istore (ls' := [.val (.ref 0), .val (.ref 13), .val (.ref 193), .val (.ref 224), .val (.int a4), .val (.int s0), w6]) dLa_law_738 (by rcases hw5 with z | ⟨_, z⟩ | ⟨_, z⟩ <;> subst z <;> rfl) ?_
  refine QW.aload_n dLa_law_740 rfl rfl ?_
  refine QW.aload_n dLa_law_741 rfl rfl ?_
  refine QW.iload dLa_law_742 rfl ?_
  refine QW.iconst (v := 1) dLa_law_744 (by decide) ?_
  refine QW.iadd dLa_law_745 ?_
  refine MW.sald hS dLa_law_746 h1 ?_
  refine QW.aload_n dLa_law_747 rfl rfl ?_
  refine QW.iload dLa_law_748 rfl ?_
  refine QW.iconst (v := 2) dLa_law_750 (by decide) ?_
  refine QW.iadd dLa_law_751 ?_
  refine MW.sald hS dLa_law_752 h2 ?_
  exact MW.calV (as := [.int (xs.getD (Int32.toNatClampNeg (a4 + 1)) 0), .int (xs.getD (Int32.toNatClampNeg (a4 + 2)) 0)]) (rest := []) hX dLa_law_753 eMo_alike lLa_118 iMo_alike vMo_alike rfl rfl rfl rfl rfl rfl (Nat.le_of_ble_eq_true rfl) rfl k3
theorem bLa_law_756 {xs : List Int32} {a4 : Int32} {a5 : Int32} {w6 : Slot} {s0 : Int32} (hX : X.length = 13) (hS : X[0]? = some (80, xs.map Value.int)) (hw6 : qfr w6) (k1 : QW d mMo_thrown 0 (qen 1 [.ref 193]) [] (hpo X mem sw o e) (qcl d mLa_law 759 762 (lLa_law_762 a4 a5 s0) [] P)) : QW (d + 1) mLa_law 756 (lLa_law_756 a4 a5 w6) [.int s0] (hpo X mem sw o e) P := by
  show QW (d + 1) mLa_law 756 [.val (.ref 0), .val (.ref 13), .val (.ref 193), .val (.ref 224), .val (.int a4), .val (.int a5), w6] [.int s0] (hpo X mem sw o e) P
  refine QW.istore (ls' := [.val (.ref 0), .val (.ref 13), .val (.ref 193), .val (.ref 224), .val (.int a4), .val (.int a5), .val (.int s0)]) dLa_law_756 (by rcases hw6 with z | ⟨_, z⟩ | ⟨_, z⟩ <;> subst z <;> rfl) ?_
  refine QW.aload_n dLa_law_758 rfl rfl ?_
  exact MW.calV (as := []) (rest := []) hX dLa_law_759 eMo_thrown lLa_64 iMo_thrown vMo_thrown rfl rfl rfl rfl rfl rfl (Nat.le_of_ble_eq_true rfl) rfl k1
theorem bLa_law_762 {xs : List Int32} {a4 : Int32} {a5 : Int32} {a6 : Int32} {s0 : Int32} (hX : X.length = 13) (hS : X[0]? = some (80, xs.map Value.int)) (k1 : (s0 = a5) → (¬ a5 = 0) → QW d mLa_law 793 (lLa_law_793 a4 a5 a6) [] (hpo X mem sw o e) P) (k2 : (s0 = a5) → (a5 = 0) → (a6 = 0) → QW d mLa_law 787 (lLa_law_787 a4 a5 a6) [.long 0, .long o] (hpo X mem sw o e) P) (k3 : (s0 = a5) → (a5 = 0) → (¬ a6 = 0) → QW d mLa_law 787 (lLa_law_787 a4 a5 a6) [.long 1, .long o] (hpo X mem sw o e) P) (k4 : (¬ s0 = a5) → P (.inl (some (.int 0)), (hpo X mem sw o e))) : QW d mLa_law 762 (lLa_law_762 a4 a5 a6) [.int s0] (hpo X mem sw o e) P := by
  show QW d mLa_law 762 [.val (.ref 0), .val (.ref 13), .val (.ref 193), .val (.ref 224), .val (.int a4), .val (.int a5), .val (.int a6)] [.int s0] (hpo X mem sw o e) P
  refine QW.iload dLa_law_762 rfl ?_
  refine QW.icmp_eq (tgt := 769) dLa_law_764 (by decide) (fun z0 => ?_) (fun z0 => ?_)
  · refine QW.iload dLa_law_769 rfl ?_
    refine QW.if_ne (tgt := 793) dLa_law_771 (by decide) (fun z1 => ?_) (fun z1 => ?_)
    · exact (k1 z0 z1)
    · refine QW.aload_n dLa_law_774 rfl rfl ?_
      refine QW.iconst (v := 0) dLa_law_775 (by decide) ?_
      refine MW.lald hX dLa_law_776 ?_
      refine QW.iload dLa_law_777 rfl ?_
      refine QW.if_eq (tgt := 786) dLa_law_779 (by decide) (fun z2 => ?_) (fun z2 => ?_)
      · refine QW.lconst (v := 0) dLa_law_786 (by decide) ?_
        exact (k2 z0 z1 z2)
      · refine QW.lconst (v := 1) dLa_law_782 (by decide) ?_
        refine QW.goto (tgt := 787) dLa_law_783 (by decide) ?_
        exact (k3 z0 z1 z2)
  · refine QW.iconst (v := 0) dLa_law_767 (by decide) ?_
    exact QW.iret dLa_law_768 rfl rfl (k4 z0)
theorem bLa_law_787 {xs : List Int32} {a4 : Int32} {a5 : Int32} {a6 : Int32} {s1 : Int64} {s0 : Int64} (hX : X.length = 13) (hS : X[0]? = some (80, xs.map Value.int)) (k1 : ((lg_cmp s0 s1) = 0) → QW d mLa_law 793 (lLa_law_793 a4 a5 a6) [] (hpo X mem sw o e) P) (k2 : (¬ (lg_cmp s0 s1) = 0) → P (.inl (some (.int 0)), (hpo X mem sw o e))) : QW d mLa_law 787 (lLa_law_787 a4 a5 a6) [.long s1, .long s0] (hpo X mem sw o e) P := by
  show QW d mLa_law 787 [.val (.ref 0), .val (.ref 13), .val (.ref 193), .val (.ref 224), .val (.int a4), .val (.int a5), .val (.int a6)] [.long s1, .long s0] (hpo X mem sw o e) P
  refine QW.lcmp dLa_law_787 ?_
  refine QW.if_eq (tgt := 793) dLa_law_788 (by decide) (fun z0 => ?_) (fun z0 => ?_)
  · exact (k1 z0)
  · refine QW.iconst (v := 0) dLa_law_791 (by decide) ?_
    exact QW.iret dLa_law_792 rfl rfl (k2 z0)
theorem bLa_law_793 {xs : List Int32} {a4 : Int32} {a5 : Int32} {a6 : Int32} (hX : X.length = 13) (hS : X[0]? = some (80, xs.map Value.int)) (k1 : QW d mLa_law 852 (lLa_law_852 a4 (.val (.int a5)) (.val (.int a6))) [] (hpo X mem sw o e) P) : QW d mLa_law 793 (lLa_law_793 a4 a5 a6) [] (hpo X mem sw o e) P := by
  show QW d mLa_law 793 [.val (.ref 0), .val (.ref 13), .val (.ref 193), .val (.ref 224), .val (.int a4), .val (.int a5), .val (.int a6)] [] (hpo X mem sw o e) P
  refine QW.goto (tgt := 852) dLa_law_793 (by decide) ?_
  exact k1
theorem bLa_law_796 {xs : List Int32} {a4 : Int32} {w5 : Slot} {w6 : Slot} (hX : X.length = 13) (hS : X[0]? = some (80, xs.map Value.int)) (hw5 : qfr w5) (hw6 : qfr w6) (h1 : inx (a4 + 1) xs.length) (k2 : QW d mLa_sources 0 (qen 4 [.ref 13, .int (xs.getD (Int32.toNatClampNeg (a4 + 1)) 0), .ref 224]) [] (hpo X mem sw o e) (qcl d mLa_law 804 807 (lLa_law_807 a4 w5 w6) [] P)) : QW (d + 1) mLa_law 796 (lLa_law_796 a4 w5 w6) [] (hpo X mem sw o e) P := by
  show QW (d + 1) mLa_law 796 [.val (.ref 0), .val (.ref 13), .val (.ref 193), .val (.ref 224), .val (.int a4), w5, w6] [] (hpo X mem sw o e) P
  refine QW.aload_n dLa_law_796 rfl rfl ?_
  refine QW.aload_n dLa_law_797 rfl rfl ?_
  refine QW.iload dLa_law_798 rfl ?_
  refine QW.iconst (v := 1) dLa_law_800 (by decide) ?_
  refine QW.iadd dLa_law_801 ?_
  refine MW.sald hS dLa_law_802 h1 ?_
  refine QW.aload_n dLa_law_803 rfl rfl ?_
  exact MW.calS (as := [.ref 13, .int (xs.getD (Int32.toNatClampNeg (a4 + 1)) 0), .ref 224]) (rest := []) dLa_law_804 eLa_sources lLa_119 sLa_sources rfl rfl rfl (Nat.le_of_ble_eq_true rfl) rfl k2
theorem bLa_law_807 {xs : List Int32} {a4 : Int32} {w5 : Slot} {w6 : Slot} {s0 : Int32} (hX : X.length = 13) (hS : X[0]? = some (80, xs.map Value.int)) (hw5 : qfr w5) (hw6 : qfr w6) (h1 : inx (a4 + 1) xs.length) (k2 : QW d mMo_sources 0 (qen 2 [.ref 193, .int (xs.getD (Int32.toNatClampNeg (a4 + 1)) 0)]) [] (hpo X mem sw o e) (qcl d mLa_law 816 819 (lLa_law_819 a4 s0 w6) [] P)) : QW (d + 1) mLa_law 807 (lLa_law_807 a4 w5 w6) [.int s0] (hpo X mem sw o e) P := by
  show QW (d + 1) mLa_law 807 [.val (.ref 0), .val (.ref 13), .val (.ref 193), .val (.ref 224), .val (.int a4), w5, w6] [.int s0] (hpo X mem sw o e) P
  refine QW.istore (ls' := [.val (.ref 0), .val (.ref 13), .val (.ref 193), .val (.ref 224), .val (.int a4), .val (.int s0), w6]) dLa_law_807 (by rcases hw5 with z | ⟨_, z⟩ | ⟨_, z⟩ <;> subst z <;> rfl) ?_
  refine QW.aload_n dLa_law_809 rfl rfl ?_
  refine QW.aload_n dLa_law_810 rfl rfl ?_
  refine QW.iload dLa_law_811 rfl ?_
  refine QW.iconst (v := 1) dLa_law_813 (by decide) ?_
  refine QW.iadd dLa_law_814 ?_
  refine MW.sald hS dLa_law_815 h1 ?_
  exact MW.calV (as := [.int (xs.getD (Int32.toNatClampNeg (a4 + 1)) 0)]) (rest := []) hX dLa_law_816 eMo_sources lLa_121 iMo_sources vMo_sources rfl rfl rfl rfl rfl rfl (Nat.le_of_ble_eq_true rfl) rfl k2
theorem bLa_law_819 {xs : List Int32} {a4 : Int32} {a5 : Int32} {w6 : Slot} {s0 : Int32} (hX : X.length = 13) (hS : X[0]? = some (80, xs.map Value.int)) (hw6 : qfr w6) (k1 : QW d mMo_thrown 0 (qen 1 [.ref 193]) [] (hpo X mem sw o e) (qcl d mLa_law 822 825 (lLa_law_825 a4 a5 s0) [] P)) : QW (d + 1) mLa_law 819 (lLa_law_819 a4 a5 w6) [.int s0] (hpo X mem sw o e) P := by
  show QW (d + 1) mLa_law 819 [.val (.ref 0), .val (.ref 13), .val (.ref 193), .val (.ref 224), .val (.int a4), .val (.int a5), w6] [.int s0] (hpo X mem sw o e) P
  refine QW.istore (ls' := [.val (.ref 0), .val (.ref 13), .val (.ref 193), .val (.ref 224), .val (.int a4), .val (.int a5), .val (.int s0)]) dLa_law_819 (by rcases hw6 with z | ⟨_, z⟩ | ⟨_, z⟩ <;> subst z <;> rfl) ?_
  refine QW.aload_n dLa_law_821 rfl rfl ?_
  exact MW.calV (as := []) (rest := []) hX dLa_law_822 eMo_thrown lLa_64 iMo_thrown vMo_thrown rfl rfl rfl rfl rfl rfl (Nat.le_of_ble_eq_true rfl) rfl k1
theorem bLa_law_825 {xs : List Int32} {a4 : Int32} {a5 : Int32} {a6 : Int32} {s0 : Int32} (hX : X.length = 13) (hS : X[0]? = some (80, xs.map Value.int)) (k1 : (s0 = a5) → (¬ a5 = 0) → QW d mLa_law 849 (lLa_law_849 a4 a5 a6) [] (hpo X mem sw o e) P) (k2 : (s0 = a5) → (a5 = 0) → ((lg_cmp o (Int32.toInt64 a6)) = 0) → QW d mLa_law 849 (lLa_law_849 a4 a5 a6) [] (hpo X mem sw o e) P) (k3 : (s0 = a5) → (a5 = 0) → (¬ (lg_cmp o (Int32.toInt64 a6)) = 0) → P (.inl (some (.int 0)), (hpo X mem sw o e))) (k4 : (¬ s0 = a5) → P (.inl (some (.int 0)), (hpo X mem sw o e))) : QW d mLa_law 825 (lLa_law_825 a4 a5 a6) [.int s0] (hpo X mem sw o e) P := by
  show QW d mLa_law 825 [.val (.ref 0), .val (.ref 13), .val (.ref 193), .val (.ref 224), .val (.int a4), .val (.int a5), .val (.int a6)] [.int s0] (hpo X mem sw o e) P
  refine QW.iload dLa_law_825 rfl ?_
  refine QW.icmp_eq (tgt := 832) dLa_law_827 (by decide) (fun z0 => ?_) (fun z0 => ?_)
  · refine QW.iload dLa_law_832 rfl ?_
    refine QW.if_ne (tgt := 849) dLa_law_834 (by decide) (fun z1 => ?_) (fun z1 => ?_)
    · exact (k1 z0 z1)
    · refine QW.aload_n dLa_law_837 rfl rfl ?_
      refine QW.iconst (v := 0) dLa_law_838 (by decide) ?_
      refine MW.lald hX dLa_law_839 ?_
      refine QW.iload dLa_law_840 rfl ?_
      refine QW.i2l dLa_law_842 ?_
      refine QW.lcmp dLa_law_843 ?_
      refine QW.if_eq (tgt := 849) dLa_law_844 (by decide) (fun z2 => ?_) (fun z2 => ?_)
      · exact (k2 z0 z1 z2)
      · refine QW.iconst (v := 0) dLa_law_847 (by decide) ?_
        exact QW.iret dLa_law_848 rfl rfl (k3 z0 z1 z2)
  · refine QW.iconst (v := 0) dLa_law_830 (by decide) ?_
    exact QW.iret dLa_law_831 rfl rfl (k4 z0)
theorem bLa_law_849 {xs : List Int32} {a4 : Int32} {a5 : Int32} {a6 : Int32} (hX : X.length = 13) (hS : X[0]? = some (80, xs.map Value.int)) (k1 : QW d mLa_law 852 (lLa_law_852 a4 (.val (.int a5)) (.val (.int a6))) [] (hpo X mem sw o e) P) : QW d mLa_law 849 (lLa_law_849 a4 a5 a6) [] (hpo X mem sw o e) P := by
  show QW d mLa_law 849 [.val (.ref 0), .val (.ref 13), .val (.ref 193), .val (.ref 224), .val (.int a4), .val (.int a5), .val (.int a6)] [] (hpo X mem sw o e) P
  refine QW.goto (tgt := 852) dLa_law_849 (by decide) ?_
  exact k1
theorem bLa_law_852 {xs : List Int32} {a4 : Int32} {w5 : Slot} {w6 : Slot} (hX : X.length = 13) (hS : X[0]? = some (80, xs.map Value.int)) (hw5 : qfr w5) (hw6 : qfr w6) (k1 : QW d mLa_law 23 (lLa_law_23 (a4 + 5) w5 w6) [] (hpo X mem sw o e) P) : QW d mLa_law 852 (lLa_law_852 a4 w5 w6) [] (hpo X mem sw o e) P := by
  show QW d mLa_law 852 [.val (.ref 0), .val (.ref 13), .val (.ref 193), .val (.ref 224), .val (.int a4), w5, w6] [] (hpo X mem sw o e) P
  refine MW.iinc (c := 5) (ls' := [.val (.ref 0), .val (.ref 13), .val (.ref 193), .val (.ref 224), .val (.int (a4 + 5)), w5, w6]) dLa_law_852 (by decide) rfl rfl ?_
  refine QW.goto (tgt := 23) dLa_law_855 (by decide) ?_
  exact k1
end BLK

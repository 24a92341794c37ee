section BLK
variable {d : Nat} {P : qE → Prop} {X : qH} {mem : Nat → Nat → Int32} {sw : Bool} {o : Int64} {e : List Nat}
theorem dBp_table_0 : decode mBp_table.2.1 0 = .ok (.iload_n 1, 1) := by decide +kernel
theorem dBp_table_1 : decode mBp_table.2.1 1 = .ok (.iconst 1, 1) := by decide +kernel
theorem dBp_table_2 : decode mBp_table.2.1 2 = .ok (.if_icmp .lt 8, 3) := by decide +kernel
theorem dBp_table_5 : decode mBp_table.2.1 5 = .ok (.iload_n 1, 1) := by decide +kernel
theorem dBp_table_6 : decode mBp_table.2.1 6 = .ok (.iconst 3, 1) := by decide +kernel
theorem dBp_table_7 : decode mBp_table.2.1 7 = .ok (.if_icmp .le 13, 3) := by decide +kernel
theorem dBp_table_10 : decode mBp_table.2.1 10 = .ok (.new 81, 3) := by decide +kernel
theorem dBp_table_13 : decode mBp_table.2.1 13 = .ok (.dup, 1) := by decide +kernel
theorem dBp_table_14 : decode mBp_table.2.1 14 = .ok (.ldc 83, 2) := by decide +kernel
theorem dBp_table_16 : decode mBp_table.2.1 16 = .ok (.invokespecial 85, 3) := by decide +kernel
theorem dBp_table_19 : decode mBp_table.2.1 19 = .ok (.athrow, 1) := by decide +kernel
theorem dBp_table_20 : decode mBp_table.2.1 20 = .ok (.aload_n 0, 1) := by decide +kernel
theorem dBp_table_21 : decode mBp_table.2.1 21 = .ok (.getfield 12, 3) := by decide +kernel
theorem dBp_table_24 : decode mBp_table.2.1 24 = .ok (.getfield 88, 3) := by decide +kernel
theorem dBp_table_27 : decode mBp_table.2.1 27 = .ok (.iconst 4, 1) := by decide +kernel
theorem dBp_table_28 : decode mBp_table.2.1 28 = .ok (.if_icmp .lt 13, 3) := by decide +kernel
theorem dBp_table_31 : decode mBp_table.2.1 31 = .ok (.new 91, 3) := by decide +kernel
theorem dBp_table_34 : decode mBp_table.2.1 34 = .ok (.dup, 1) := by decide +kernel
theorem dBp_table_35 : decode mBp_table.2.1 35 = .ok (.ldc 93, 2) := by decide +kernel
theorem dBp_table_37 : decode mBp_table.2.1 37 = .ok (.invokespecial 95, 3) := by decide +kernel
theorem dBp_table_40 : decode mBp_table.2.1 40 = .ok (.athrow, 1) := by decide +kernel
theorem dBp_table_41 : decode mBp_table.2.1 41 = .ok (.aload_n 0, 1) := by decide +kernel
theorem dBp_table_42 : decode mBp_table.2.1 42 = .ok (.getfield 12, 3) := by decide +kernel
theorem dBp_table_45 : decode mBp_table.2.1 45 = .ok (.iload_n 1, 1) := by decide +kernel
theorem dBp_table_46 : decode mBp_table.2.1 46 = .ok (.invokevirtual 96, 3) := by decide +kernel
theorem dBp_table_49 : decode mBp_table.2.1 49 = .ok (.ireturn, 1) := by decide +kernel
def lBp_table_10 (a1 : Int32) : List Slot := [.val (.ref 13), .val (.int a1)]
def lBp_table_49 (a1 : Int32) : List Slot := [.val (.ref 13), .val (.int a1)]
theorem bBp_table_0 {a1 : Int32} (hX : X.length = 13) (k1 : (a1 < 1) → QW (d + 1) mBp_table 10 (lBp_table_10 a1) [] (hpo X mem sw o e) P) (k2 : (¬ a1 < 1) → (a1 ≤ 3) → ((mem 14 1) < 4) → QW d mCat_make 0 (qen 2 [.ref 14, .int a1]) [] (hpo X mem sw o e) (qcl d mBp_table 46 49 (lBp_table_49 a1) [] P)) (c3 : e.length < 10000) (k4 : (¬ a1 < 1) → (a1 ≤ 3) → (¬ (mem 14 1) < 4) → P (.inr (225 + e.length), hpo X mem sw o (e ++ [21]))) (k5 : (¬ a1 < 1) → (¬ a1 ≤ 3) → QW (d + 1) mBp_table 10 (lBp_table_10 a1) [] (hpo X mem sw o e) P) : QW (d + 1) mBp_table 0 (qen 2 [.ref 13, .int a1]) [] (hpo X mem sw o e) P := by
  show QW (d + 1) mBp_table 0 [.val (.ref 13), .val (.int a1)] [] (hpo X mem sw o e) P
  refine QW.iload_n dBp_table_0 rfl rfl ?_
  refine QW.iconst (v := 1) dBp_table_1 (by decide) ?_
  refine QW.icmp_lt (tgt := 10) dBp_table_2 (by decide) (fun z0 => ?_) (fun z0 => ?_)
  · exact (k1 z0)
  · refine QW.iload_n dBp_table_5 rfl rfl ?_
    refine QW.iconst (v := 3) dBp_table_6 (by decide) ?_
    refine QW.icmp_le (tgt := 20) dBp_table_7 (by decide) (fun z1 => ?_) (fun z1 => ?_)
    · refine QW.aload_n dBp_table_20 rfl rfl ?_
      refine MW.getr (r' := 14) hX dBp_table_21 fBp_12 rfl rfl (by cases sw <;> rfl) ?_
      refine MW.geti hX dBp_table_24 fBp_88 rfl rfl ?_
      refine QW.iconst (v := 4) dBp_table_27 (by decide) ?_
      refine QW.icmp_lt (tgt := 41) dBp_table_28 (by decide) (fun z2 => ?_) (fun z2 => ?_)
      · refine QW.aload_n dBp_table_41 rfl rfl ?_
        refine MW.getr (r' := 14) hX dBp_table_42 fBp_12 rfl rfl (by cases sw <;> rfl) ?_
        refine QW.iload_n dBp_table_45 rfl rfl ?_
        exact MW.calV (as := [.int a1]) (rest := []) hX dBp_table_46 eCat_make lBp_96 iCat_make vCat_make rfl rfl rfl rfl rfl rfl (Nat.le_of_ble_eq_true rfl) rfl (k2 z0 z1 z2)
      · exact MW.thr hX tBp_93_95 dBp_table_31 dBp_table_34 dBp_table_35 dBp_table_37 dBp_table_40 rfl c3 rfl (k4 z0 z1 z2)
    · exact (k5 z0 z1)
theorem bBp_table_10 {a1 : Int32} (hX : X.length = 13) (c1 : e.length < 10000) (k2 : P (.inr (225 + e.length), hpo X mem sw o (e ++ [20]))) : QW d mBp_table 10 (lBp_table_10 a1) [] (hpo X mem sw o e) P := by
  show QW d mBp_table 10 [.val (.ref 13), .val (.int a1)] [] (hpo X mem sw o e) P
  exact MW.thr hX tBp_83_85 dBp_table_10 dBp_table_13 dBp_table_14 dBp_table_16 dBp_table_19 rfl c1 rfl k2
theorem bBp_table_49 {a1 : Int32} {s0 : Int32} (hX : X.length = 13) (k1 : P (.inl (some (.int s0)), (hpo X mem sw o e))) : QW d mBp_table 49 (lBp_table_49 a1) [.int s0] (hpo X mem sw o e) P := by
  show QW d mBp_table 49 [.val (.ref 13), .val (.int a1)] [.int s0] (hpo X mem sw o e) P
  exact QW.iret dBp_table_49 rfl rfl k1
theorem dBp_key_0 : decode mBp_key.2.1 0 = .ok (.aload_n 0, 1) := by decide +kernel
theorem dBp_key_1 : decode mBp_key.2.1 1 = .ok (.iload_n 1, 1) := by decide +kernel
theorem dBp_key_2 : decode mBp_key.2.1 2 = .ok (.iload_n 2, 1) := by decide +kernel
theorem dBp_key_3 : decode mBp_key.2.1 3 = .ok (.invokevirtual 100, 3) := by decide +kernel
theorem dBp_key_6 : decode mBp_key.2.1 6 = .ok (.astore_n 3, 1) := by decide +kernel
theorem dBp_key_7 : decode mBp_key.2.1 7 = .ok (.aload_n 3, 1) := by decide +kernel
theorem dBp_key_8 : decode mBp_key.2.1 8 = .ok (.iload_n 2, 1) := by decide +kernel
theorem dBp_key_9 : decode mBp_key.2.1 9 = .ok (.invokevirtual 104, 3) := by decide +kernel
theorem dBp_key_12 : decode mBp_key.2.1 12 = .ok (.ifCond .eq 13, 3) := by decide +kernel
theorem dBp_key_15 : decode mBp_key.2.1 15 = .ok (.new 91, 3) := by decide +kernel
theorem dBp_key_18 : decode mBp_key.2.1 18 = .ok (.dup, 1) := by decide +kernel
theorem dBp_key_19 : decode mBp_key.2.1 19 = .ok (.ldc 110, 2) := by decide +kernel
theorem dBp_key_21 : decode mBp_key.2.1 21 = .ok (.invokespecial 95, 3) := by decide +kernel
theorem dBp_key_24 : decode mBp_key.2.1 24 = .ok (.athrow, 1) := by decide +kernel
theorem dBp_key_25 : decode mBp_key.2.1 25 = .ok (.aload_n 3, 1) := by decide +kernel
theorem dBp_key_26 : decode mBp_key.2.1 26 = .ok (.getfield 112, 3) := by decide +kernel
theorem dBp_key_29 : decode mBp_key.2.1 29 = .ok (.iload_n 2, 1) := by decide +kernel
theorem dBp_key_30 : decode mBp_key.2.1 30 = .ok (.iconst 1, 1) := by decide +kernel
theorem dBp_key_31 : decode mBp_key.2.1 31 = .ok (.bastore, 1) := by decide +kernel
theorem dBp_key_32 : decode mBp_key.2.1 32 = .ok (.return_, 1) := by decide +kernel
def lBp_key_6 (a1 : Int32) (a2 : Int32) : List Slot := [.val (.ref 13), .val (.int a1), .val (.int a2), .unset]
def lBp_key_12 (a1 : Int32) (a2 : Int32) (r3 : Nat) : List Slot := [.val (.ref 13), .val (.int a1), .val (.int a2), .val (.ref r3)]
theorem bBp_key_0 {a1 : Int32} {a2 : Int32} (hX : X.length = 13) (k1 : QW d mBp_tableWithColumn 0 (qen 3 [.ref 13, .int a1, .int a2]) [] (hpo X mem sw o e) (qcl d mBp_key 3 6 (lBp_key_6 a1 a2) [] P)) : QW (d + 1) mBp_key 0 (qen 4 [.ref 13, .int a1, .int a2]) [] (hpo X mem sw o e) P := by
  show QW (d + 1) mBp_key 0 [.val (.ref 13), .val (.int a1), .val (.int a2), .unset] [] (hpo X mem sw o e) P
  refine QW.aload_n dBp_key_0 rfl rfl ?_
  refine QW.iload_n dBp_key_1 rfl rfl ?_
  refine QW.iload_n dBp_key_2 rfl rfl ?_
  exact MW.calV (as := [.int a1, .int a2]) (rest := []) hX dBp_key_3 eBp_tableWithColumn lBp_100 iBp_tableWithColumn vBp_tableWithColumn rfl rfl rfl rfl rfl rfl (Nat.le_of_ble_eq_true rfl) rfl k1
theorem bBp_key_6 {a1 : Int32} {a2 : Int32} {q0 : Nat} (hX : X.length = 13) (hq0 : kTab q0) (k1 : QW d mTab_hasTwins 0 (qen 4 [.ref q0, .int a2]) [] (hpo X mem sw o e) (qcl d mBp_key 9 12 (lBp_key_12 a1 a2 q0) [] P)) : QW (d + 1) mBp_key 6 (lBp_key_6 a1 a2) [.ref q0] (hpo X mem sw o e) P := by
  show QW (d + 1) mBp_key 6 [.val (.ref 13), .val (.int a1), .val (.int a2), .unset] [.ref q0] (hpo X mem sw o e) P
  refine QW.astore_n (ls' := [.val (.ref 13), .val (.int a1), .val (.int a2), .val (.ref q0)]) dBp_key_6 rfl rfl ?_
  refine QW.aload_n dBp_key_7 rfl rfl ?_
  refine QW.iload_n dBp_key_8 rfl rfl ?_
  exact MW.calV (as := [.int a2]) (rest := []) hX dBp_key_9 eTab_hasTwins lBp_104 iTab_hasTwins vTab_hasTwins rfl rfl (kTab_0 hq0) rfl rfl rfl (Nat.le_of_ble_eq_true rfl) rfl k1
theorem bBp_key_12 {a1 : Int32} {a2 : Int32} {r3 : Nat} {s0 : Int32} (hX : X.length = 13) (hr3 : kTab r3) (h1 : (s0 = 0) → inx a2 3) (k2 : (s0 = 0) → P (.inl none, (hpo X (mup mem (r3 + 1) (Int32.toNatClampNeg a2) 1) sw o e))) (c3 : e.length < 10000) (k4 : (¬ s0 = 0) → P (.inr (225 + e.length), hpo X mem sw o (e ++ [21]))) : QW d mBp_key 12 (lBp_key_12 a1 a2 r3) [.int s0] (hpo X mem sw o e) P := by
  show QW d mBp_key 12 [.val (.ref 13), .val (.int a1), .val (.int a2), .val (.ref r3)] [.int s0] (hpo X mem sw o e) P
  refine QW.if_eq (tgt := 25) dBp_key_12 (by decide) (fun z0 => ?_) (fun z0 => ?_)
  · refine QW.aload_n dBp_key_25 rfl rfl ?_
    refine MW.getr (r' := (r3 + 1)) hX dBp_key_26 fBp_112 (kTab_0 hr3) rfl (kTab_s1 hr3 _) ?_
    refine QW.iload_n dBp_key_29 rfl rfl ?_
    refine QW.iconst (v := 1) dBp_key_30 (by decide) ?_
    refine MW.zast hX dBp_key_31 (kTab_1 hr3) (h1 z0).1 (rep_get (h1 z0).2) rfl ?_
    exact QW.vret dBp_key_32 rfl (k2 z0)
  · exact MW.thr hX tBp_110_95 dBp_key_15 dBp_key_18 dBp_key_19 dBp_key_21 dBp_key_24 rfl c3 rfl (k4 z0)
theorem dBp_insert_0 : decode mBp_insert.2.1 0 = .ok (.aload_n 0, 1) := by decide +kernel
theorem dBp_insert_1 : decode mBp_insert.2.1 1 = .ok (.getfield 12, 3) := by decide +kernel
theorem dBp_insert_4 : decode mBp_insert.2.1 4 = .ok (.iload_n 1, 1) := by decide +kernel
theorem dBp_insert_5 : decode mBp_insert.2.1 5 = .ok (.invokevirtual 116, 3) := by decide +kernel
theorem dBp_insert_8 : decode mBp_insert.2.1 8 = .ok (.ifCond .ne 13, 3) := by decide +kernel
theorem dBp_insert_11 : decode mBp_insert.2.1 11 = .ok (.new 81, 3) := by decide +kernel
theorem dBp_insert_14 : decode mBp_insert.2.1 14 = .ok (.dup, 1) := by decide +kernel
theorem dBp_insert_15 : decode mBp_insert.2.1 15 = .ok (.ldc 119, 2) := by decide +kernel
theorem dBp_insert_17 : decode mBp_insert.2.1 17 = .ok (.invokespecial 85, 3) := by decide +kernel
theorem dBp_insert_20 : decode mBp_insert.2.1 20 = .ok (.athrow, 1) := by decide +kernel
theorem dBp_insert_21 : decode mBp_insert.2.1 21 = .ok (.aload_n 0, 1) := by decide +kernel
theorem dBp_insert_22 : decode mBp_insert.2.1 22 = .ok (.getfield 12, 3) := by decide +kernel
theorem dBp_insert_25 : decode mBp_insert.2.1 25 = .ok (.getfield 121, 3) := by decide +kernel
theorem dBp_insert_28 : decode mBp_insert.2.1 28 = .ok (.iload_n 1, 1) := by decide +kernel
theorem dBp_insert_29 : decode mBp_insert.2.1 29 = .ok (.aaload, 1) := by decide +kernel
theorem dBp_insert_30 : decode mBp_insert.2.1 30 = .ok (.astore 5, 2) := by decide +kernel
theorem dBp_insert_32 : decode mBp_insert.2.1 32 = .ok (.aload 5, 2) := by decide +kernel
theorem dBp_insert_34 : decode mBp_insert.2.1 34 = .ok (.getfield 125, 3) := by decide +kernel
theorem dBp_insert_37 : decode mBp_insert.2.1 37 = .ok (.bipush 8, 2) := by decide +kernel
theorem dBp_insert_39 : decode mBp_insert.2.1 39 = .ok (.if_icmp .lt 13, 3) := by decide +kernel
theorem dBp_insert_42 : decode mBp_insert.2.1 42 = .ok (.new 91, 3) := by decide +kernel
theorem dBp_insert_45 : decode mBp_insert.2.1 45 = .ok (.dup, 1) := by decide +kernel
theorem dBp_insert_46 : decode mBp_insert.2.1 46 = .ok (.ldc 128, 2) := by decide +kernel
theorem dBp_insert_48 : decode mBp_insert.2.1 48 = .ok (.invokespecial 95, 3) := by decide +kernel
theorem dBp_insert_51 : decode mBp_insert.2.1 51 = .ok (.athrow, 1) := by decide +kernel
theorem dBp_insert_52 : decode mBp_insert.2.1 52 = .ok (.aload 5, 2) := by decide +kernel
theorem dBp_insert_54 : decode mBp_insert.2.1 54 = .ok (.iload_n 2, 1) := by decide +kernel
theorem dBp_insert_55 : decode mBp_insert.2.1 55 = .ok (.iload_n 3, 1) := by decide +kernel
theorem dBp_insert_56 : decode mBp_insert.2.1 56 = .ok (.iload 4, 2) := by decide +kernel
theorem dBp_insert_58 : decode mBp_insert.2.1 58 = .ok (.invokevirtual 130, 3) := by decide +kernel
theorem dBp_insert_61 : decode mBp_insert.2.1 61 = .ok (.ifCond .eq 13, 3) := by decide +kernel
theorem dBp_insert_64 : decode mBp_insert.2.1 64 = .ok (.new 91, 3) := by decide +kernel
theorem dBp_insert_67 : decode mBp_insert.2.1 67 = .ok (.dup, 1) := by decide +kernel
theorem dBp_insert_68 : decode mBp_insert.2.1 68 = .ok (.ldc 134, 2) := by decide +kernel
theorem dBp_insert_70 : decode mBp_insert.2.1 70 = .ok (.invokespecial 95, 3) := by decide +kernel
theorem dBp_insert_73 : decode mBp_insert.2.1 73 = .ok (.athrow, 1) := by decide +kernel
theorem dBp_insert_74 : decode mBp_insert.2.1 74 = .ok (.aload 5, 2) := by decide +kernel
theorem dBp_insert_76 : decode mBp_insert.2.1 76 = .ok (.iload_n 2, 1) := by decide +kernel
theorem dBp_insert_77 : decode mBp_insert.2.1 77 = .ok (.iload_n 3, 1) := by decide +kernel
theorem dBp_insert_78 : decode mBp_insert.2.1 78 = .ok (.iload 4, 2) := by decide +kernel
theorem dBp_insert_80 : decode mBp_insert.2.1 80 = .ok (.invokevirtual 136, 3) := by decide +kernel
theorem dBp_insert_83 : decode mBp_insert.2.1 83 = .ok (.ireturn, 1) := by decide +kernel
def lBp_insert_8 (a1 : Int32) (a2 : Int32) (a3 : Int32) (a4 : Int32) : List Slot := [.val (.ref 13), .val (.int a1), .val (.int a2), .val (.int a3), .val (.int a4), .unset]
def lBp_insert_61 (a1 : Int32) (a2 : Int32) (a3 : Int32) (a4 : Int32) (r5 : Nat) : List Slot := [.val (.ref 13), .val (.int a1), .val (.int a2), .val (.int a3), .val (.int a4), .val (.ref r5)]
def lBp_insert_83 (a1 : Int32) (a2 : Int32) (a3 : Int32) (a4 : Int32) (r5 : Nat) : List Slot := [.val (.ref 13), .val (.int a1), .val (.int a2), .val (.int a3), .val (.int a4), .val (.ref r5)]
theorem bBp_insert_0 {a1 : Int32} {a2 : Int32} {a3 : Int32} {a4 : Int32} (hX : X.length = 13) (k1 : QW d mCat_has 0 (qen 2 [.ref 14, .int a1]) [] (hpo X mem sw o e) (qcl d mBp_insert 5 8 (lBp_insert_8 a1 a2 a3 a4) [] P)) : QW (d + 1) mBp_insert 0 (qen 6 [.ref 13, .int a1, .int a2, .int a3, .int a4]) [] (hpo X mem sw o e) P := by
  show QW (d + 1) mBp_insert 0 [.val (.ref 13), .val (.int a1), .val (.int a2), .val (.int a3), .val (.int a4), .unset] [] (hpo X mem sw o e) P
  refine QW.aload_n dBp_insert_0 rfl rfl ?_
  refine MW.getr (r' := 14) hX dBp_insert_1 fBp_12 rfl rfl (by cases sw <;> rfl) ?_
  refine QW.iload_n dBp_insert_4 rfl rfl ?_
  exact MW.calV (as := [.int a1]) (rest := []) hX dBp_insert_5 eCat_has lBp_116 iCat_has vCat_has rfl rfl rfl rfl rfl rfl (Nat.le_of_ble_eq_true rfl) rfl k1
theorem bBp_insert_8 {a1 : Int32} {a2 : Int32} {a3 : Int32} {a4 : Int32} {s0 : Int32} (hX : X.length = 13) (h1 : (¬ s0 = 0) → inx a1 4) (k2 : (¬ s0 = 0) → ((mem (16 + 3 * (Int32.toNatClampNeg a1)) 1) < 8) → QW d mTab_breaksKey 0 (qen 4 [.ref (16 + 3 * (Int32.toNatClampNeg a1)), .int a2, .int a3, .int a4]) [] (hpo X mem sw o e) (qcl d mBp_insert 58 61 (lBp_insert_61 a1 a2 a3 a4 (16 + 3 * (Int32.toNatClampNeg a1))) [] P)) (c3 : e.length < 10000) (k4 : (¬ s0 = 0) → (¬ (mem (16 + 3 * (Int32.toNatClampNeg a1)) 1) < 8) → P (.inr (225 + e.length), hpo X mem sw o (e ++ [21]))) (c5 : e.length < 10000) (k6 : (s0 = 0) → P (.inr (225 + e.length), hpo X mem sw o (e ++ [20]))) : QW (d + 1) mBp_insert 8 (lBp_insert_8 a1 a2 a3 a4) [.int s0] (hpo X mem sw o e) P := by
  show QW (d + 1) mBp_insert 8 [.val (.ref 13), .val (.int a1), .val (.int a2), .val (.int a3), .val (.int a4), .unset] [.int s0] (hpo X mem sw o e) P
  refine QW.if_ne (tgt := 21) dBp_insert_8 (by decide) (fun z0 => ?_) (fun z0 => ?_)
  · refine QW.aload_n dBp_insert_21 rfl rfl ?_
    refine MW.getr (r' := 14) hX dBp_insert_22 fBp_12 rfl rfl (by cases sw <;> rfl) ?_
    refine MW.getr (r' := 15) hX dBp_insert_25 fBp_121 rfl rfl (by cases sw <;> rfl) ?_
    refine QW.iload_n dBp_insert_28 rfl rfl ?_
    refine MW.aald (r' := (16 + 3 * (Int32.toNatClampNeg a1))) hX dBp_insert_29 rfl rfl (Nat.le_of_ble_eq_true rfl) (h1 z0).1 (el_tab (h1 z0).2) (sw_tab (h1 z0).2) ?_
    refine QW.astore (ls' := [.val (.ref 13), .val (.int a1), .val (.int a2), .val (.int a3), .val (.int a4), .val (.ref (16 + 3 * (Int32.toNatClampNeg a1)))]) dBp_insert_30 rfl ?_
    refine QW.aload dBp_insert_32 rfl ?_
    refine MW.geti hX dBp_insert_34 fBp_125 (kTab_0 (kTab_at (h1 z0).2)) rfl ?_
    refine QW.bipush (v := 8) dBp_insert_37 (by decide) ?_
    refine QW.icmp_lt (tgt := 52) dBp_insert_39 (by decide) (fun z1 => ?_) (fun z1 => ?_)
    · refine QW.aload dBp_insert_52 rfl ?_
      refine QW.iload_n dBp_insert_54 rfl rfl ?_
      refine QW.iload_n dBp_insert_55 rfl rfl ?_
      refine QW.iload dBp_insert_56 rfl ?_
      exact MW.calV (as := [.int a2, .int a3, .int a4]) (rest := []) hX dBp_insert_58 eTab_breaksKey lBp_130 iTab_breaksKey vTab_breaksKey rfl rfl (kTab_0 (kTab_at (h1 z0).2)) rfl rfl rfl (Nat.le_of_ble_eq_true rfl) rfl (k2 z0 z1)
    · exact MW.thr hX tBp_128_95 dBp_insert_42 dBp_insert_45 dBp_insert_46 dBp_insert_48 dBp_insert_51 rfl c3 rfl (k4 z0 z1)
  · exact MW.thr hX tBp_119_85 dBp_insert_11 dBp_insert_14 dBp_insert_15 dBp_insert_17 dBp_insert_20 rfl c5 rfl (k6 z0)
theorem bBp_insert_61 {a1 : Int32} {a2 : Int32} {a3 : Int32} {a4 : Int32} {r5 : Nat} {s0 : Int32} (hX : X.length = 13) (hr5 : kTab r5) (k1 : (s0 = 0) → QW d mTab_append 0 (qen 5 [.ref r5, .int a2, .int a3, .int a4]) [] (hpo X mem sw o e) (qcl d mBp_insert 80 83 (lBp_insert_83 a1 a2 a3 a4 r5) [] P)) (c2 : e.length < 10000) (k3 : (¬ s0 = 0) → P (.inr (225 + e.length), hpo X mem sw o (e ++ [21]))) : QW (d + 1) mBp_insert 61 (lBp_insert_61 a1 a2 a3 a4 r5) [.int s0] (hpo X mem sw o e) P := by
  show QW (d + 1) mBp_insert 61 [.val (.ref 13), .val (.int a1), .val (.int a2), .val (.int a3), .val (.int a4), .val (.ref r5)] [.int s0] (hpo X mem sw o e) P
  refine QW.if_eq (tgt := 74) dBp_insert_61 (by decide) (fun z0 => ?_) (fun z0 => ?_)
  · refine QW.aload dBp_insert_74 rfl ?_
    refine QW.iload_n dBp_insert_76 rfl rfl ?_
    refine QW.iload_n dBp_insert_77 rfl rfl ?_
    refine QW.iload dBp_insert_78 rfl ?_
    exact MW.calV (as := [.int a2, .int a3, .int a4]) (rest := []) hX dBp_insert_80 eTab_append lBp_136 iTab_append vTab_append rfl rfl (kTab_0 hr5) rfl rfl rfl (Nat.le_of_ble_eq_true rfl) rfl (k1 z0)
  · exact MW.thr hX tBp_134_95 dBp_insert_64 dBp_insert_67 dBp_insert_68 dBp_insert_70 dBp_insert_73 rfl c2 rfl (k3 z0)
theorem bBp_insert_83 {a1 : Int32} {a2 : Int32} {a3 : Int32} {a4 : Int32} {r5 : Nat} {s0 : Int32} (hX : X.length = 13) (hr5 : kTab r5) (k1 : P (.inl (some (.int s0)), (hpo X mem sw o e))) : QW d mBp_insert 83 (lBp_insert_83 a1 a2 a3 a4 r5) [.int s0] (hpo X mem sw o e) P := by
  show QW d mBp_insert 83 [.val (.ref 13), .val (.int a1), .val (.int a2), .val (.int a3), .val (.int a4), .val (.ref r5)] [.int s0] (hpo X mem sw o e) P
  exact QW.iret dBp_insert_83 rfl rfl k1
theorem dBp_delete_0 : decode mBp_delete.2.1 0 = .ok (.aload_n 0, 1) := by decide +kernel
theorem dBp_delete_1 : decode mBp_delete.2.1 1 = .ok (.iload_n 1, 1) := by decide +kernel
theorem dBp_delete_2 : decode mBp_delete.2.1 2 = .ok (.iload_n 2, 1) := by decide +kernel
theorem dBp_delete_3 : decode mBp_delete.2.1 3 = .ok (.invokevirtual 100, 3) := by decide +kernel
theorem dBp_delete_6 : decode mBp_delete.2.1 6 = .ok (.iload_n 2, 1) := by decide +kernel
theorem dBp_delete_7 : decode mBp_delete.2.1 7 = .ok (.iload_n 3, 1) := by decide +kernel
theorem dBp_delete_8 : decode mBp_delete.2.1 8 = .ok (.invokevirtual 140, 3) := by decide +kernel
theorem dBp_delete_11 : decode mBp_delete.2.1 11 = .ok (.ireturn, 1) := by decide +kernel
def lBp_delete_6 (a1 : Int32) (a2 : Int32) (a3 : Int32) : List Slot := [.val (.ref 13), .val (.int a1), .val (.int a2), .val (.int a3)]
def lBp_delete_11 (a1 : Int32) (a2 : Int32) (a3 : Int32) : List Slot := [.val (.ref 13), .val (.int a1), .val (.int a2), .val (.int a3)]
theorem bBp_delete_0 {a1 : Int32} {a2 : Int32} {a3 : Int32} (hX : X.length = 13) (k1 : QW d mBp_tableWithColumn 0 (qen 3 [.ref 13, .int a1, .int a2]) [] (hpo X mem sw o e) (qcl d mBp_delete 3 6 (lBp_delete_6 a1 a2 a3) [] P)) : QW (d + 1) mBp_delete 0 (qen 4 [.ref 13, .int a1, .int a2, .int a3]) [] (hpo X mem sw o e) P := by
  show QW (d + 1) mBp_delete 0 [.val (.ref 13), .val (.int a1), .val (.int a2), .val (.int a3)] [] (hpo X mem sw o e) P
  refine QW.aload_n dBp_delete_0 rfl rfl ?_
  refine QW.iload_n dBp_delete_1 rfl rfl ?_
  refine QW.iload_n dBp_delete_2 rfl rfl ?_
  exact MW.calV (as := [.int a1, .int a2]) (rest := []) hX dBp_delete_3 eBp_tableWithColumn lBp_100 iBp_tableWithColumn vBp_tableWithColumn rfl rfl rfl rfl rfl rfl (Nat.le_of_ble_eq_true rfl) rfl k1
theorem bBp_delete_6 {a1 : Int32} {a2 : Int32} {a3 : Int32} {q0 : Nat} (hX : X.length = 13) (hq0 : kTab q0) (k1 : QW d mTab_takeOut 0 (qen 5 [.ref q0, .int a2, .int a3]) [] (hpo X mem sw o e) (qcl d mBp_delete 8 11 (lBp_delete_11 a1 a2 a3) [] P)) : QW (d + 1) mBp_delete 6 (lBp_delete_6 a1 a2 a3) [.ref q0] (hpo X mem sw o e) P := by
  show QW (d + 1) mBp_delete 6 [.val (.ref 13), .val (.int a1), .val (.int a2), .val (.int a3)] [.ref q0] (hpo X mem sw o e) P
  refine QW.iload_n dBp_delete_6 rfl rfl ?_
  refine QW.iload_n dBp_delete_7 rfl rfl ?_
  exact MW.calV (as := [.int a2, .int a3]) (rest := []) hX dBp_delete_8 eTab_takeOut lBp_140 iTab_takeOut vTab_takeOut rfl rfl (kTab_0 hq0) rfl rfl rfl (Nat.le_of_ble_eq_true rfl) rfl k1
theorem bBp_delete_11 {a1 : Int32} {a2 : Int32} {a3 : Int32} {s0 : Int32} (hX : X.length = 13) (k1 : P (.inl (some (.int s0)), (hpo X mem sw o e))) : QW d mBp_delete 11 (lBp_delete_11 a1 a2 a3) [.int s0] (hpo X mem sw o e) P := by
  show QW d mBp_delete 11 [.val (.ref 13), .val (.int a1), .val (.int a2), .val (.int a3)] [.int s0] (hpo X mem sw o e) P
  exact QW.iret dBp_delete_11 rfl rfl k1
theorem dBp_write_0 : decode mBp_write.2.1 0 = .ok (.aload_n 0, 1) := by decide +kernel
theorem dBp_write_1 : decode mBp_write.2.1 1 = .ok (.getfield 19, 3) := by decide +kernel
theorem dBp_write_4 : decode mBp_write.2.1 4 = .ok (.lload_n 1, 1) := by decide +kernel
theorem dBp_write_5 : decode mBp_write.2.1 5 = .ok (.invokevirtual 144, 3) := by decide +kernel
theorem dBp_write_8 : decode mBp_write.2.1 8 = .ok (.ireturn, 1) := by decide +kernel
def lBp_write_8 (a1 : Int64) : List Slot := [.val (.ref 13), .val (.long a1), .second]
theorem bBp_write_0 {a1 : Int64} (hX : X.length = 13) (k1 : QW d mTxt_append 0 (qen 6 [.ref 28, .long a1]) [] (hpo X mem sw o e) (qcl d mBp_write 5 8 (lBp_write_8 a1) [] P)) : QW (d + 1) mBp_write 0 (qen 3 [.ref 13, .long a1]) [] (hpo X mem sw o e) P := by
  show QW (d + 1) mBp_write 0 [.val (.ref 13), .val (.long a1), .second] [] (hpo X mem sw o e) P
  refine QW.aload_n dBp_write_0 rfl rfl ?_
  refine MW.getr (r' := 28) hX dBp_write_1 fBp_19 rfl rfl (by cases sw <;> rfl) ?_
  refine QW.lload_n dBp_write_4 rfl rfl ?_
  exact MW.calV (as := [.long a1]) (rest := []) hX dBp_write_5 eTxt_append lBp_144 iTxt_append vTxt_append rfl rfl rfl rfl rfl rfl (Nat.le_of_ble_eq_true rfl) rfl k1
theorem bBp_write_8 {a1 : Int64} {s0 : Int32} (hX : X.length = 13) (h1 : narrow .boolean (.int s0) = .int s0) (k2 : P (.inl (some (.int s0)), (hpo X mem sw o e))) : QW d mBp_write 8 (lBp_write_8 a1) [.int s0] (hpo X mem sw o e) P := by
  show QW d mBp_write 8 [.val (.ref 13), .val (.long a1), .second] [.int s0] (hpo X mem sw o e) P
  exact QW.iret dBp_write_8 rfl h1 k2
theorem dBp_wipe_0 : decode mBp_wipe.2.1 0 = .ok (.aload_n 0, 1) := by decide +kernel
theorem dBp_wipe_1 : decode mBp_wipe.2.1 1 = .ok (.getfield 19, 3) := by decide +kernel
theorem dBp_wipe_4 : decode mBp_wipe.2.1 4 = .ok (.invokevirtual 147, 3) := by decide +kernel
theorem dBp_wipe_7 : decode mBp_wipe.2.1 7 = .ok (.ireturn, 1) := by decide +kernel
def lBp_wipe_7  : List Slot := [.val (.ref 13)]
theorem bBp_wipe_0 (hX : X.length = 13) (k1 : QW d mTxt_clear 0 (qen 2 [.ref 28]) [] (hpo X mem sw o e) (qcl d mBp_wipe 4 7 lBp_wipe_7 [] P)) : QW (d + 1) mBp_wipe 0 (qen 1 [.ref 13]) [] (hpo X mem sw o e) P := by
  show QW (d + 1) mBp_wipe 0 [.val (.ref 13)] [] (hpo X mem sw o e) P
  refine QW.aload_n dBp_wipe_0 rfl rfl ?_
  refine MW.getr (r' := 28) hX dBp_wipe_1 fBp_19 rfl rfl (by cases sw <;> rfl) ?_
  exact MW.calV (as := []) (rest := []) hX dBp_wipe_4 eTxt_clear lBp_147 iTxt_clear vTxt_clear rfl rfl rfl rfl rfl rfl (Nat.le_of_ble_eq_true rfl) rfl k1
theorem bBp_wipe_7 {s0 : Int32} (hX : X.length = 13) (k1 : P (.inl (some (.int s0)), (hpo X mem sw o e))) : QW d mBp_wipe 7 (lBp_wipe_7) [.int s0] (hpo X mem sw o e) P := by
  show QW d mBp_wipe 7 [.val (.ref 13)] [.int s0] (hpo X mem sw o e) P
  exact QW.iret dBp_wipe_7 rfl rfl k1
theorem dBp_place_0 : decode mBp_place.2.1 0 = .ok (.aload_n 0, 1) := by decide +kernel
theorem dBp_place_1 : decode mBp_place.2.1 1 = .ok (.getfield 41, 3) := by decide +kernel
theorem dBp_place_4 : decode mBp_place.2.1 4 = .ok (.ireturn, 1) := by decide +kernel
theorem bBp_place_0 (hX : X.length = 13) (k1 : P (.inl (some (.int (mem 13 5))), (hpo X mem sw o e))) : QW d mBp_place 0 (qen 1 [.ref 13]) [] (hpo X mem sw o e) P := by
  show QW d mBp_place 0 [.val (.ref 13)] [] (hpo X mem sw o e) P
  refine QW.aload_n dBp_place_0 rfl rfl ?_
  refine MW.geti hX dBp_place_1 fBp_41 rfl rfl ?_
  exact QW.iret dBp_place_4 rfl rfl k1
theorem dBp_forget_0 : decode mBp_forget.2.1 0 = .ok (.aload_n 0, 1) := by decide +kernel
theorem dBp_forget_1 : decode mBp_forget.2.1 1 = .ok (.getfield 37, 3) := by decide +kernel
theorem dBp_forget_4 : decode mBp_forget.2.1 4 = .ok (.istore_n 1, 1) := by decide +kernel
theorem dBp_forget_5 : decode mBp_forget.2.1 5 = .ok (.aload_n 0, 1) := by decide +kernel
theorem dBp_forget_6 : decode mBp_forget.2.1 6 = .ok (.iconst 0, 1) := by decide +kernel
theorem dBp_forget_7 : decode mBp_forget.2.1 7 = .ok (.putfield 37, 3) := by decide +kernel
theorem dBp_forget_10 : decode mBp_forget.2.1 10 = .ok (.iload_n 1, 1) := by decide +kernel
theorem dBp_forget_11 : decode mBp_forget.2.1 11 = .ok (.ireturn, 1) := by decide +kernel
theorem bBp_forget_0 (hX : X.length = 13) (k1 : P (.inl (some (.int (mem 13 4))), (hpo X (mup mem 13 4 0) sw o e))) : QW d mBp_forget 0 (qen 2 [.ref 13]) [] (hpo X mem sw o e) P := by
  show QW d mBp_forget 0 [.val (.ref 13), .unset] [] (hpo X mem sw o e) P
  refine QW.aload_n dBp_forget_0 rfl rfl ?_
  refine MW.geti hX dBp_forget_1 fBp_37 rfl rfl ?_
  refine QW.istore_n (ls' := [.val (.ref 13), .val (.int (mem 13 4))]) dBp_forget_4 rfl rfl ?_
  refine QW.aload_n dBp_forget_5 rfl rfl ?_
  refine QW.iconst (v := 0) dBp_forget_6 (by decide) ?_
  refine MW.puti hX dBp_forget_7 fBp_37 rfl rfl rfl ?_
  refine QW.iload_n dBp_forget_10 rfl rfl ?_
  exact QW.iret dBp_forget_11 rfl rfl k1
theorem dBp_tableWithColumn_0 : decode mBp_tableWithColumn.2.1 0 = .ok (.aload_n 0, 1) := by decide +kernel
theorem dBp_tableWithColumn_1 : decode mBp_tableWithColumn.2.1 1 = .ok (.getfield 12, 3) := by decide +kernel
theorem dBp_tableWithColumn_4 : decode mBp_tableWithColumn.2.1 4 = .ok (.iload_n 1, 1) := by decide +kernel
theorem dBp_tableWithColumn_5 : decode mBp_tableWithColumn.2.1 5 = .ok (.invokevirtual 116, 3) := by decide +kernel
theorem dBp_tableWithColumn_8 : decode mBp_tableWithColumn.2.1 8 = .ok (.ifCond .eq 19, 3) := by decide +kernel
theorem dBp_tableWithColumn_11 : decode mBp_tableWithColumn.2.1 11 = .ok (.aload_n 0, 1) := by decide +kernel
theorem dBp_tableWithColumn_12 : decode mBp_tableWithColumn.2.1 12 = .ok (.getfield 12, 3) := by decide +kernel
theorem dBp_tableWithColumn_15 : decode mBp_tableWithColumn.2.1 15 = .ok (.getfield 121, 3) := by decide +kernel
theorem dBp_tableWithColumn_18 : decode mBp_tableWithColumn.2.1 18 = .ok (.iload_n 1, 1) := by decide +kernel
theorem dBp_tableWithColumn_19 : decode mBp_tableWithColumn.2.1 19 = .ok (.aaload, 1) := by decide +kernel
theorem dBp_tableWithColumn_20 : decode mBp_tableWithColumn.2.1 20 = .ok (.iload_n 2, 1) := by decide +kernel
theorem dBp_tableWithColumn_21 : decode mBp_tableWithColumn.2.1 21 = .ok (.invokevirtual 215, 3) := by decide +kernel
theorem dBp_tableWithColumn_24 : decode mBp_tableWithColumn.2.1 24 = .ok (.ifCond .ne 13, 3) := by decide +kernel
theorem dBp_tableWithColumn_27 : decode mBp_tableWithColumn.2.1 27 = .ok (.new 81, 3) := by decide +kernel
theorem dBp_tableWithColumn_30 : decode mBp_tableWithColumn.2.1 30 = .ok (.dup, 1) := by decide +kernel
theorem dBp_tableWithColumn_31 : decode mBp_tableWithColumn.2.1 31 = .ok (.ldc 218, 2) := by decide +kernel
theorem dBp_tableWithColumn_33 : decode mBp_tableWithColumn.2.1 33 = .ok (.invokespecial 85, 3) := by decide +kernel
theorem dBp_tableWithColumn_36 : decode mBp_tableWithColumn.2.1 36 = .ok (.athrow, 1) := by decide +kernel
theorem dBp_tableWithColumn_37 : decode mBp_tableWithColumn.2.1 37 = .ok (.aload_n 0, 1) := by decide +kernel
theorem dBp_tableWithColumn_38 : decode mBp_tableWithColumn.2.1 38 = .ok (.getfield 12, 3) := by decide +kernel
theorem dBp_tableWithColumn_41 : decode mBp_tableWithColumn.2.1 41 = .ok (.getfield 121, 3) := by decide +kernel
theorem dBp_tableWithColumn_44 : decode mBp_tableWithColumn.2.1 44 = .ok (.iload_n 1, 1) := by decide +kernel
theorem dBp_tableWithColumn_45 : decode mBp_tableWithColumn.2.1 45 = .ok (.aaload, 1) := by decide +kernel
theorem dBp_tableWithColumn_46 : decode mBp_tableWithColumn.2.1 46 = .ok (.areturn, 1) := by decide +kernel
def lBp_tableWithColumn_8 (a1 : Int32) (a2 : Int32) : List Slot := [.val (.ref 13), .val (.int a1), .val (.int a2)]
def lBp_tableWithColumn_24 (a1 : Int32) (a2 : Int32) : List Slot := [.val (.ref 13), .val (.int a1), .val (.int a2)]
def lBp_tableWithColumn_27 (a1 : Int32) (a2 : Int32) : List Slot := [.val (.ref 13), .val (.int a1), .val (.int a2)]
theorem bBp_tableWithColumn_0 {a1 : Int32} {a2 : Int32} (hX : X.length = 13) (k1 : QW d mCat_has 0 (qen 2 [.ref 14, .int a1]) [] (hpo X mem sw o e) (qcl d mBp_tableWithColumn 5 8 (lBp_tableWithColumn_8 a1 a2) [] P)) : QW (d + 1) mBp_tableWithColumn 0 (qen 3 [.ref 13, .int a1, .int a2]) [] (hpo X mem sw o e) P := by
  show QW (d + 1) mBp_tableWithColumn 0 [.val (.ref 13), .val (.int a1), .val (.int a2)] [] (hpo X mem sw o e) P
  refine QW.aload_n dBp_tableWithColumn_0 rfl rfl ?_
  refine MW.getr (r' := 14) hX dBp_tableWithColumn_1 fBp_12 rfl rfl (by cases sw <;> rfl) ?_
  refine QW.iload_n dBp_tableWithColumn_4 rfl rfl ?_
  exact MW.calV (as := [.int a1]) (rest := []) hX dBp_tableWithColumn_5 eCat_has lBp_116 iCat_has vCat_has rfl rfl rfl rfl rfl rfl (Nat.le_of_ble_eq_true rfl) rfl k1
theorem bBp_tableWithColumn_8 {a1 : Int32} {a2 : Int32} {s0 : Int32} (hX : X.length = 13) (k1 : (s0 = 0) → QW (d + 1) mBp_tableWithColumn 27 (lBp_tableWithColumn_27 a1 a2) [] (hpo X mem sw o e) P) (h2 : (¬ s0 = 0) → inx a1 4) (k3 : (¬ s0 = 0) → QW d mTab_hasColumn 0 (qen 2 [.ref (16 + 3 * (Int32.toNatClampNeg a1)), .int a2]) [] (hpo X mem sw o e) (qcl d mBp_tableWithColumn 21 24 (lBp_tableWithColumn_24 a1 a2) [] P)) : QW (d + 1) mBp_tableWithColumn 8 (lBp_tableWithColumn_8 a1 a2) [.int s0] (hpo X mem sw o e) P := by
  show QW (d + 1) mBp_tableWithColumn 8 [.val (.ref 13), .val (.int a1), .val (.int a2)] [.int s0] (hpo X mem sw o e) P
  refine QW.if_eq (tgt := 27) dBp_tableWithColumn_8 (by decide) (fun z0 => ?_) (fun z0 => ?_)
  · exact (k1 z0)
  · refine QW.aload_n dBp_tableWithColumn_11 rfl rfl ?_
    refine MW.getr (r' := 14) hX dBp_tableWithColumn_12 fBp_12 rfl rfl (by cases sw <;> rfl) ?_
    refine MW.getr (r' := 15) hX dBp_tableWithColumn_15 fBp_121 rfl rfl (by cases sw <;> rfl) ?_
    refine QW.iload_n dBp_tableWithColumn_18 rfl rfl ?_
    refine MW.aald (r' := (16 + 3 * (Int32.toNatClampNeg a1))) hX dBp_tableWithColumn_19 rfl rfl (Nat.le_of_ble_eq_true rfl) (h2 z0).1 (el_tab (h2 z0).2) (sw_tab (h2 z0).2) ?_
    refine QW.iload_n dBp_tableWithColumn_20 rfl rfl ?_
    exact MW.calV (as := [.int a2]) (rest := []) hX dBp_tableWithColumn_21 eTab_hasColumn lBp_215 iTab_hasColumn vTab_hasColumn rfl rfl (kTab_0 (kTab_at (h2 z0).2)) rfl rfl rfl (Nat.le_of_ble_eq_true rfl) rfl (k3 z0)
theorem bBp_tableWithColumn_24 {a1 : Int32} {a2 : Int32} {s0 : Int32} (hX : X.length = 13) (h1 : (¬ s0 = 0) → inx a1 4) (k2 : (¬ s0 = 0) → P (.inl (some (.ref (16 + 3 * (Int32.toNatClampNeg a1)))), (hpo X mem sw o e))) (k3 : (s0 = 0) → QW d mBp_tableWithColumn 27 (lBp_tableWithColumn_27 a1 a2) [] (hpo X mem sw o e) P) : QW d mBp_tableWithColumn 24 (lBp_tableWithColumn_24 a1 a2) [.int s0] (hpo X mem sw o e) P := by
  show QW d mBp_tableWithColumn 24 [.val (.ref 13), .val (.int a1), .val (.int a2)] [.int s0] (hpo X mem sw o e) P
  refine QW.if_ne (tgt := 37) dBp_tableWithColumn_24 (by decide) (fun z0 => ?_) (fun z0 => ?_)
  · refine QW.aload_n dBp_tableWithColumn_37 rfl rfl ?_
    refine MW.getr (r' := 14) hX dBp_tableWithColumn_38 fBp_12 rfl rfl (by cases sw <;> rfl) ?_
    refine MW.getr (r' := 15) hX dBp_tableWithColumn_41 fBp_121 rfl rfl (by cases sw <;> rfl) ?_
    refine QW.iload_n dBp_tableWithColumn_44 rfl rfl ?_
    refine MW.aald (r' := (16 + 3 * (Int32.toNatClampNeg a1))) hX dBp_tableWithColumn_45 rfl rfl (Nat.le_of_ble_eq_true rfl) (h1 z0).1 (el_tab (h1 z0).2) (sw_tab (h1 z0).2) ?_
    exact QW.aret dBp_tableWithColumn_46 rfl (k2 z0)
  · exact (k3 z0)
theorem bBp_tableWithColumn_27 {a1 : Int32} {a2 : Int32} (hX : X.length = 13) (c1 : e.length < 10000) (k2 : P (.inr (225 + e.length), hpo X mem sw o (e ++ [20]))) : QW d mBp_tableWithColumn 27 (lBp_tableWithColumn_27 a1 a2) [] (hpo X mem sw o e) P := by
  show QW d mBp_tableWithColumn 27 [.val (.ref 13), .val (.int a1), .val (.int a2)] [] (hpo X mem sw o e) P
  exact MW.thr hX tBp_218_85 dBp_tableWithColumn_27 dBp_tableWithColumn_30 dBp_tableWithColumn_31 dBp_tableWithColumn_33 dBp_tableWithColumn_36 rfl c1 rfl k2
theorem dCat_has_0 : decode mCat_has.2.1 0 = .ok (.iload_n 1, 1) := by decide +kernel
theorem dCat_has_1 : decode mCat_has.2.1 1 = .ok (.ifCond .lt 15, 3) := by decide +kernel
theorem dCat_has_4 : decode mCat_has.2.1 4 = .ok (.iload_n 1, 1) := by decide +kernel
theorem dCat_has_5 : decode mCat_has.2.1 5 = .ok (.aload_n 0, 1) := by decide +kernel
theorem dCat_has_6 : decode mCat_has.2.1 6 = .ok (.getfield 18, 3) := by decide +kernel
theorem dCat_has_9 : decode mCat_has.2.1 9 = .ok (.if_icmp .ge 7, 3) := by decide +kernel
theorem dCat_has_12 : decode mCat_has.2.1 12 = .ok (.iconst 1, 1) := by decide +kernel
theorem dCat_has_13 : decode mCat_has.2.1 13 = .ok (.goto 4, 3) := by decide +kernel
theorem dCat_has_16 : decode mCat_has.2.1 16 = .ok (.iconst 0, 1) := by decide +kernel
theorem dCat_has_17 : decode mCat_has.2.1 17 = .ok (.ireturn, 1) := by decide +kernel
theorem bCat_has_0 {a1 : Int32} (hX : X.length = 13) (k1 : (a1 < 0) → P (.inl (some (.int 0)), (hpo X mem sw o e))) (k2 : (¬ a1 < 0) → ((mem 14 1) ≤ a1) → P (.inl (some (.int 0)), (hpo X mem sw o e))) (k3 : (¬ a1 < 0) → (¬ (mem 14 1) ≤ a1) → P (.inl (some (.int 1)), (hpo X mem sw o e))) : QW d mCat_has 0 (qen 2 [.ref 14, .int a1]) [] (hpo X mem sw o e) P := by
  show QW d mCat_has 0 [.val (.ref 14), .val (.int a1)] [] (hpo X mem sw o e) P
  refine QW.iload_n dCat_has_0 rfl rfl ?_
  refine QW.if_lt (tgt := 16) dCat_has_1 (by decide) (fun z0 => ?_) (fun z0 => ?_)
  · refine QW.iconst (v := 0) dCat_has_16 (by decide) ?_
    exact QW.iret dCat_has_17 rfl rfl (k1 z0)
  · refine QW.iload_n dCat_has_4 rfl rfl ?_
    refine QW.aload_n dCat_has_5 rfl rfl ?_
    refine MW.geti hX dCat_has_6 fCat_18 rfl rfl ?_
    refine QW.icmp_ge (tgt := 16) dCat_has_9 (by decide) (fun z1 => ?_) (fun z1 => ?_)
    · refine QW.iconst (v := 0) dCat_has_16 (by decide) ?_
      exact QW.iret dCat_has_17 rfl rfl (k2 z0 z1)
    · refine QW.iconst (v := 1) dCat_has_12 (by decide) ?_
      refine QW.goto (tgt := 17) dCat_has_13 (by decide) ?_
      exact QW.iret dCat_has_17 rfl rfl (k3 z0 z1)
theorem dCat_make_0 : decode mCat_make.2.1 0 = .ok (.aload_n 0, 1) := by decide +kernel
theorem dCat_make_1 : decode mCat_make.2.1 1 = .ok (.getfield 11, 3) := by decide +kernel
theorem dCat_make_4 : decode mCat_make.2.1 4 = .ok (.aload_n 0, 1) := by decide +kernel
theorem dCat_make_5 : decode mCat_make.2.1 5 = .ok (.getfield 18, 3) := by decide +kernel
theorem dCat_make_8 : decode mCat_make.2.1 8 = .ok (.aaload, 1) := by decide +kernel
theorem dCat_make_9 : decode mCat_make.2.1 9 = .ok (.iload_n 1, 1) := by decide +kernel
theorem dCat_make_10 : decode mCat_make.2.1 10 = .ok (.putfield 22, 3) := by decide +kernel
theorem dCat_make_13 : decode mCat_make.2.1 13 = .ok (.aload_n 0, 1) := by decide +kernel
theorem dCat_make_14 : decode mCat_make.2.1 14 = .ok (.dup, 1) := by decide +kernel
theorem dCat_make_15 : decode mCat_make.2.1 15 = .ok (.getfield 18, 3) := by decide +kernel
theorem dCat_make_18 : decode mCat_make.2.1 18 = .ok (.iconst 1, 1) := by decide +kernel
theorem dCat_make_19 : decode mCat_make.2.1 19 = .ok (.iadd, 1) := by decide +kernel
theorem dCat_make_20 : decode mCat_make.2.1 20 = .ok (.putfield 18, 3) := by decide +kernel
theorem dCat_make_23 : decode mCat_make.2.1 23 = .ok (.aload_n 0, 1) := by decide +kernel
theorem dCat_make_24 : decode mCat_make.2.1 24 = .ok (.getfield 18, 3) := by decide +kernel
theorem dCat_make_27 : decode mCat_make.2.1 27 = .ok (.iconst 1, 1) := by decide +kernel
theorem dCat_make_28 : decode mCat_make.2.1 28 = .ok (.isub, 1) := by decide +kernel
theorem dCat_make_29 : decode mCat_make.2.1 29 = .ok (.ireturn, 1) := by decide +kernel
theorem bCat_make_0 {a1 : Int32} (hX : X.length = 13) (h1 : inx (mem 14 1) 4) (k2 : P (.inl (some (.int (((mup (mup mem (16 + 3 * (Int32.toNatClampNeg (mem 14 1))) 0 a1) 14 1 (((mup mem (16 + 3 * (Int32.toNatClampNeg (mem 14 1))) 0 a1) 14 1) + 1)) 14 1) - 1))), (hpo X (mup (mup mem (16 + 3 * (Int32.toNatClampNeg (mem 14 1))) 0 a1) 14 1 (((mup mem (16 + 3 * (Int32.toNatClampNeg (mem 14 1))) 0 a1) 14 1) + 1)) sw o e))) : QW d mCat_make 0 (qen 2 [.ref 14, .int a1]) [] (hpo X mem sw o e) P := by
  show QW d mCat_make 0 [.val (.ref 14), .val (.int a1)] [] (hpo X mem sw o e) P
  refine QW.aload_n dCat_make_0 rfl rfl ?_
  refine MW.getr (r' := 15) hX dCat_make_1 fCat_11 rfl rfl (by cases sw <;> rfl) ?_
  refine QW.aload_n dCat_make_4 rfl rfl ?_
  refine MW.geti hX dCat_make_5 fCat_18 rfl rfl ?_
  refine MW.aald (r' := (16 + 3 * (Int32.toNatClampNeg (mem 14 1)))) hX dCat_make_8 rfl rfl (Nat.le_of_ble_eq_true rfl) h1.1 (el_tab h1.2) (sw_tab h1.2) ?_
  refine QW.iload_n dCat_make_9 rfl rfl ?_
  refine MW.puti hX dCat_make_10 fCat_22 (kTab_0 (kTab_at h1.2)) rfl rfl ?_
  refine QW.aload_n dCat_make_13 rfl rfl ?_
  refine QW.dup dCat_make_14 rfl ?_
  refine MW.geti hX dCat_make_15 fCat_18 rfl rfl ?_
  refine QW.iconst (v := 1) dCat_make_18 (by decide) ?_
  refine QW.iadd dCat_make_19 ?_
  refine MW.puti hX dCat_make_20 fCat_18 rfl rfl rfl ?_
  refine QW.aload_n dCat_make_23 rfl rfl ?_
  refine MW.geti hX dCat_make_24 fCat_18 rfl rfl ?_
  refine QW.iconst (v := 1) dCat_make_27 (by decide) ?_
  refine QW.isub dCat_make_28 ?_
  exact QW.iret dCat_make_29 rfl rfl k2
theorem bTab_hasColumn_0 {t : Nat} {a1 : Int32} (hX : X.length = 13) (ht : kTab t) (k1 : (a1 < 0) → P (.inl (some (.int 0)), (hpo X mem sw o e))) (k2 : (¬ a1 < 0) → ((mem t 0) ≤ a1) → P (.inl (some (.int 0)), (hpo X mem sw o e))) (k3 : (¬ a1 < 0) → (¬ (mem t 0) ≤ a1) → P (.inl (some (.int 1)), (hpo X mem sw o e))) : QW d mTab_hasColumn 0 (qen 2 [.ref t, .int a1]) [] (hpo X mem sw o e) P := by
  show QW d mTab_hasColumn 0 [.val (.ref t), .val (.int a1)] [] (hpo X mem sw o e) P
  refine QW.iload_n dTab_hasColumn_0 rfl rfl ?_
  refine QW.if_lt (tgt := 16) dTab_hasColumn_1 (by decide) (fun z0 => ?_) (fun z0 => ?_)
  · refine QW.iconst (v := 0) dTab_hasColumn_16 (by decide) ?_
    exact QW.iret dTab_hasColumn_17 rfl rfl (k1 z0)
  · refine QW.iload_n dTab_hasColumn_4 rfl rfl ?_
    refine QW.aload_n dTab_hasColumn_5 rfl rfl ?_
    refine MW.geti hX dTab_hasColumn_6 fTab_19 (kTab_0 ht) rfl ?_
    refine QW.icmp_ge (tgt := 16) dTab_hasColumn_9 (by decide) (fun z1 => ?_) (fun z1 => ?_)
    · refine QW.iconst (v := 0) dTab_hasColumn_16 (by decide) ?_
      exact QW.iret dTab_hasColumn_17 rfl rfl (k2 z0 z1)
    · refine QW.iconst (v := 1) dTab_hasColumn_12 (by decide) ?_
      refine QW.goto (tgt := 17) dTab_hasColumn_13 (by decide) ?_
      exact QW.iret dTab_hasColumn_17 rfl rfl (k3 z0 z1)
theorem dTab_cell_0 : decode mTab_cell.2.1 0 = .ok (.aload_n 0, 1) := by decide +kernel
theorem dTab_cell_1 : decode mTab_cell.2.1 1 = .ok (.getfield 15, 3) := by decide +kernel
theorem dTab_cell_4 : decode mTab_cell.2.1 4 = .ok (.iload_n 1, 1) := by decide +kernel
theorem dTab_cell_5 : decode mTab_cell.2.1 5 = .ok (.iconst 3, 1) := by decide +kernel
theorem dTab_cell_6 : decode mTab_cell.2.1 6 = .ok (.imul, 1) := by decide +kernel
theorem dTab_cell_7 : decode mTab_cell.2.1 7 = .ok (.iload_n 2, 1) := by decide +kernel
theorem dTab_cell_8 : decode mTab_cell.2.1 8 = .ok (.iadd, 1) := by decide +kernel
theorem dTab_cell_9 : decode mTab_cell.2.1 9 = .ok (.iaload, 1) := by decide +kernel
theorem dTab_cell_10 : decode mTab_cell.2.1 10 = .ok (.ireturn, 1) := by decide +kernel
theorem bTab_cell_0 {t : Nat} {a1 : Int32} {a2 : Int32} (hX : X.length = 13) (ht : kTab t) (h1 : inx ((a1 * 3) + a2) 24) (k2 : P (.inl (some (.int (mem (t + 2) (Int32.toNatClampNeg ((a1 * 3) + a2))))), (hpo X mem sw o e))) : QW d mTab_cell 0 (qen 3 [.ref t, .int a1, .int a2]) [] (hpo X mem sw o e) P := by
  show QW d mTab_cell 0 [.val (.ref t), .val (.int a1), .val (.int a2)] [] (hpo X mem sw o e) P
  refine QW.aload_n dTab_cell_0 rfl rfl ?_
  refine MW.getr (r' := (t + 2)) hX dTab_cell_1 fTab_15 (kTab_0 ht) rfl (kTab_s2 ht _) ?_
  refine QW.iload_n dTab_cell_4 rfl rfl ?_
  refine QW.iconst (v := 3) dTab_cell_5 (by decide) ?_
  refine QW.imul dTab_cell_6 ?_
  refine QW.iload_n dTab_cell_7 rfl rfl ?_
  refine QW.iadd dTab_cell_8 ?_
  refine MW.iald hX dTab_cell_9 (kTab_2 ht) h1.1 (rep_get h1.2) ?_
  exact QW.iret dTab_cell_10 rfl rfl k2
theorem dTab_hasTwins_0 : decode mTab_hasTwins.2.1 0 = .ok (.iconst 0, 1) := by decide +kernel
theorem dTab_hasTwins_1 : decode mTab_hasTwins.2.1 1 = .ok (.istore_n 2, 1) := by decide +kernel
theorem dTab_hasTwins_2 : decode mTab_hasTwins.2.1 2 = .ok (.iload_n 2, 1) := by decide +kernel
theorem dTab_hasTwins_3 : decode mTab_hasTwins.2.1 3 = .ok (.aload_n 0, 1) := by decide +kernel
theorem dTab_hasTwins_4 : decode mTab_hasTwins.2.1 4 = .ok (.getfield 23, 3) := by decide +kernel
theorem dTab_hasTwins_7 : decode mTab_hasTwins.2.1 7 = .ok (.if_icmp .ge 44, 3) := by decide +kernel
theorem dTab_hasTwins_10 : decode mTab_hasTwins.2.1 10 = .ok (.iload_n 2, 1) := by decide +kernel
theorem dTab_hasTwins_11 : decode mTab_hasTwins.2.1 11 = .ok (.iconst 1, 1) := by decide +kernel
theorem dTab_hasTwins_12 : decode mTab_hasTwins.2.1 12 = .ok (.iadd, 1) := by decide +kernel
theorem dTab_hasTwins_13 : decode mTab_hasTwins.2.1 13 = .ok (.istore_n 3, 1) := by decide +kernel
theorem dTab_hasTwins_14 : decode mTab_hasTwins.2.1 14 = .ok (.iload_n 3, 1) := by decide +kernel
theorem dTab_hasTwins_15 : decode mTab_hasTwins.2.1 15 = .ok (.aload_n 0, 1) := by decide +kernel
theorem dTab_hasTwins_16 : decode mTab_hasTwins.2.1 16 = .ok (.getfield 23, 3) := by decide +kernel
theorem dTab_hasTwins_19 : decode mTab_hasTwins.2.1 19 = .ok (.if_icmp .ge 26, 3) := by decide +kernel
theorem dTab_hasTwins_22 : decode mTab_hasTwins.2.1 22 = .ok (.aload_n 0, 1) := by decide +kernel
theorem dTab_hasTwins_23 : decode mTab_hasTwins.2.1 23 = .ok (.iload_n 2, 1) := by decide +kernel
theorem dTab_hasTwins_24 : decode mTab_hasTwins.2.1 24 = .ok (.iload_n 1, 1) := by decide +kernel
theorem dTab_hasTwins_25 : decode mTab_hasTwins.2.1 25 = .ok (.invokevirtual 26, 3) := by decide +kernel
theorem dTab_hasTwins_28 : decode mTab_hasTwins.2.1 28 = .ok (.aload_n 0, 1) := by decide +kernel
theorem dTab_hasTwins_29 : decode mTab_hasTwins.2.1 29 = .ok (.iload_n 3, 1) := by decide +kernel
theorem dTab_hasTwins_30 : decode mTab_hasTwins.2.1 30 = .ok (.iload_n 1, 1) := by decide +kernel
theorem dTab_hasTwins_31 : decode mTab_hasTwins.2.1 31 = .ok (.invokevirtual 26, 3) := by decide +kernel
theorem dTab_hasTwins_34 : decode mTab_hasTwins.2.1 34 = .ok (.if_icmp .ne 5, 3) := by decide +kernel
theorem dTab_hasTwins_37 : decode mTab_hasTwins.2.1 37 = .ok (.iconst 1, 1) := by decide +kernel
theorem dTab_hasTwins_38 : decode mTab_hasTwins.2.1 38 = .ok (.ireturn, 1) := by decide +kernel
theorem dTab_hasTwins_39 : decode mTab_hasTwins.2.1 39 = .ok (.iinc 3 1, 3) := by decide +kernel
theorem dTab_hasTwins_42 : decode mTab_hasTwins.2.1 42 = .ok (.goto (-28), 3) := by decide +kernel
theorem dTab_hasTwins_45 : decode mTab_hasTwins.2.1 45 = .ok (.iinc 2 1, 3) := by decide +kernel
theorem dTab_hasTwins_48 : decode mTab_hasTwins.2.1 48 = .ok (.goto (-46), 3) := by decide +kernel
theorem dTab_hasTwins_51 : decode mTab_hasTwins.2.1 51 = .ok (.iconst 0, 1) := by decide +kernel
theorem dTab_hasTwins_52 : decode mTab_hasTwins.2.1 52 = .ok (.ireturn, 1) := by decide +kernel
def lTab_hasTwins_2 (a1 : Int32) (a2 : Int32) (w3 : Slot) (t : Nat) : List Slot := [.val (.ref t), .val (.int a1), .val (.int a2), w3]
def lTab_hasTwins_14 (a1 : Int32) (a2 : Int32) (a3 : Int32) (t : Nat) : List Slot := [.val (.ref t), .val (.int a1), .val (.int a2), .val (.int a3)]
def lTab_hasTwins_28 (a1 : Int32) (a2 : Int32) (a3 : Int32) (t : Nat) : List Slot := [.val (.ref t), .val (.int a1), .val (.int a2), .val (.int a3)]
def lTab_hasTwins_34 (a1 : Int32) (a2 : Int32) (a3 : Int32) (t : Nat) : List Slot := [.val (.ref t), .val (.int a1), .val (.int a2), .val (.int a3)]
theorem bTab_hasTwins_0 {t : Nat} {a1 : Int32} (hX : X.length = 13) (ht : kTab t) (k1 : QW d mTab_hasTwins 2 (lTab_hasTwins_2 a1 0 .unset t) [] (hpo X mem sw o e) P) : QW d mTab_hasTwins 0 (qen 4 [.ref t, .int a1]) [] (hpo X mem sw o e) P := by
  show QW d mTab_hasTwins 0 [.val (.ref t), .val (.int a1), .unset, .unset] [] (hpo X mem sw o e) P
  refine QW.iconst (v := 0) dTab_hasTwins_0 (by decide) ?_
  refine QW.istore_n (ls' := [.val (.ref t), .val (.int a1), .val (.int 0), .unset]) dTab_hasTwins_1 rfl rfl ?_
  exact k1
theorem bTab_hasTwins_2 {t : Nat} {a1 : Int32} {a2 : Int32} {w3 : Slot} (hX : X.length = 13) (ht : kTab t) (hw3 : qfr w3) (k1 : ((mem t 1) ≤ a2) → P (.inl (some (.int 0)), (hpo X mem sw o e))) (k2 : (¬ (mem t 1) ≤ a2) → QW d mTab_hasTwins 14 (lTab_hasTwins_14 a1 a2 (a2 + 1) t) [] (hpo X mem sw o e) P) : QW d mTab_hasTwins 2 (lTab_hasTwins_2 a1 a2 w3 t) [] (hpo X mem sw o e) P := by
  show QW d mTab_hasTwins 2 [.val (.ref t), .val (.int a1), .val (.int a2), w3] [] (hpo X mem sw o e) P
  refine QW.iload_n dTab_hasTwins_2 rfl rfl ?_
  refine QW.aload_n dTab_hasTwins_3 rfl rfl ?_
  refine MW.geti hX dTab_hasTwins_4 fTab_23 (kTab_0 ht) rfl ?_
  refine QW.icmp_ge (tgt := 51) dTab_hasTwins_7 (by decide) (fun z0 => ?_) (fun z0 => ?_)
  · refine QW.iconst (v := 0) dTab_hasTwins_51 (by decide) ?_
    exact QW.iret dTab_hasTwins_52 rfl rfl (k1 z0)
  · refine QW.iload_n dTab_hasTwins_10 rfl rfl ?_
    refine QW.iconst (v := 1) dTab_hasTwins_11 (by decide) ?_
    refine QW.iadd dTab_hasTwins_12 ?_
    refine QW.istore_n (ls' := [.val (.ref t), .val (.int a1), .val (.int a2), .val (.int (a2 + 1))]) dTab_hasTwins_13 rfl (by rcases hw3 with z | ⟨_, z⟩ | ⟨_, z⟩ <;> subst z <;> rfl) ?_
    exact (k2 z0)
theorem bTab_hasTwins_14 {t : Nat} {a1 : Int32} {a2 : Int32} {a3 : Int32} (hX : X.length = 13) (ht : kTab t) (k1 : ((mem t 1) ≤ a3) → QW (d + 1) mTab_hasTwins 2 (lTab_hasTwins_2 a1 (a2 + 1) (.val (.int a3)) t) [] (hpo X mem sw o e) P) (k2 : (¬ (mem t 1) ≤ a3) → QW d mTab_cell 0 (qen 3 [.ref t, .int a2, .int a1]) [] (hpo X mem sw o e) (qcl d mTab_hasTwins 25 28 (lTab_hasTwins_28 a1 a2 a3 t) [] P)) : QW (d + 1) mTab_hasTwins 14 (lTab_hasTwins_14 a1 a2 a3 t) [] (hpo X mem sw o e) P := by
  show QW (d + 1) mTab_hasTwins 14 [.val (.ref t), .val (.int a1), .val (.int a2), .val (.int a3)] [] (hpo X mem sw o e) P
  refine QW.iload_n dTab_hasTwins_14 rfl rfl ?_
  refine QW.aload_n dTab_hasTwins_15 rfl rfl ?_
  refine MW.geti hX dTab_hasTwins_16 fTab_23 (kTab_0 ht) rfl ?_
  refine QW.icmp_ge (tgt := 45) dTab_hasTwins_19 (by decide) (fun z0 => ?_) (fun z0 => ?_)
  · refine MW.iinc (c := 1) (ls' := [.val (.ref t), .val (.int a1), .val (.int (a2 + 1)), .val (.int a3)]) dTab_hasTwins_45 (by decide) rfl rfl ?_
    refine QW.goto (tgt := 2) dTab_hasTwins_48 (by decide) ?_
    exact (k1 z0)
  · refine QW.aload_n dTab_hasTwins_22 rfl rfl ?_
    refine QW.iload_n dTab_hasTwins_23 rfl rfl ?_
    refine QW.iload_n dTab_hasTwins_24 rfl rfl ?_
    exact MW.calV (as := [.int a2, .int a1]) (rest := []) hX dTab_hasTwins_25 eTab_cell lTab_26 iTab_cell vTab_cell rfl rfl (kTab_0 ht) rfl rfl rfl (Nat.le_of_ble_eq_true rfl) rfl (k2 z0)
theorem bTab_hasTwins_28 {t : Nat} {a1 : Int32} {a2 : Int32} {a3 : Int32} {s0 : Int32} (hX : X.length = 13) (ht : kTab t) (k1 : QW d mTab_cell 0 (qen 3 [.ref t, .int a3, .int a1]) [] (hpo X mem sw o e) (qcl d mTab_hasTwins 31 34 (lTab_hasTwins_34 a1 a2 a3 t) [.int s0] P)) : QW (d + 1) mTab_hasTwins 28 (lTab_hasTwins_28 a1 a2 a3 t) [.int s0] (hpo X mem sw o e) P := by
  show QW (d + 1) mTab_hasTwins 28 [.val (.ref t), .val (.int a1), .val (.int a2), .val (.int a3)] [.int s0] (hpo X mem sw o e) P
  refine QW.aload_n dTab_hasTwins_28 rfl rfl ?_
  refine QW.iload_n dTab_hasTwins_29 rfl rfl ?_
  refine QW.iload_n dTab_hasTwins_30 rfl rfl ?_
  exact MW.calV (as := [.int a3, .int a1]) (rest := [.int s0]) hX dTab_hasTwins_31 eTab_cell lTab_26 iTab_cell vTab_cell rfl rfl (kTab_0 ht) rfl rfl rfl (Nat.le_of_ble_eq_true rfl) rfl k1
theorem bTab_hasTwins_34 {t : Nat} {a1 : Int32} {a2 : Int32} {a3 : Int32} {s1 : Int32} {s0 : Int32} (hX : X.length = 13) (ht : kTab t) (k1 : (¬ s0 = s1) → QW d mTab_hasTwins 14 (lTab_hasTwins_14 a1 a2 (a3 + 1) t) [] (hpo X mem sw o e) P) (k2 : (s0 = s1) → P (.inl (some (.int 1)), (hpo X mem sw o e))) : QW d mTab_hasTwins 34 (lTab_hasTwins_34 a1 a2 a3 t) [.int s1, .int s0] (hpo X mem sw o e) P := by
  show QW d mTab_hasTwins 34 [.val (.ref t), .val (.int a1), .val (.int a2), .val (.int a3)] [.int s1, .int s0] (hpo X mem sw o e) P
  refine QW.icmp_ne (tgt := 39) dTab_hasTwins_34 (by decide) (fun z0 => ?_) (fun z0 => ?_)
  · refine MW.iinc (c := 1) (ls' := [.val (.ref t), .val (.int a1), .val (.int a2), .val (.int (a3 + 1))]) dTab_hasTwins_39 (by decide) rfl rfl ?_
    refine QW.goto (tgt := 14) dTab_hasTwins_42 (by decide) ?_
    exact (k1 z0)
  · refine QW.iconst (v := 1) dTab_hasTwins_37 (by decide) ?_
    exact QW.iret dTab_hasTwins_38 rfl rfl (k2 z0)
theorem dTab_breaksKey_0 : decode mTab_breaksKey.2.1 0 = .ok (.aload_n 0, 1) := by decide +kernel
theorem dTab_breaksKey_1 : decode mTab_breaksKey.2.1 1 = .ok (.iconst 0, 1) := by decide +kernel
theorem dTab_breaksKey_2 : decode mTab_breaksKey.2.1 2 = .ok (.iload_n 1, 1) := by decide +kernel
theorem dTab_breaksKey_3 : decode mTab_breaksKey.2.1 3 = .ok (.invokevirtual 30, 3) := by decide +kernel
theorem dTab_breaksKey_6 : decode mTab_breaksKey.2.1 6 = .ok (.ifCond .ne 21, 3) := by decide +kernel
theorem dTab_breaksKey_9 : decode mTab_breaksKey.2.1 9 = .ok (.aload_n 0, 1) := by decide +kernel
theorem dTab_breaksKey_10 : decode mTab_breaksKey.2.1 10 = .ok (.iconst 1, 1) := by decide +kernel
theorem dTab_breaksKey_11 : decode mTab_breaksKey.2.1 11 = .ok (.iload_n 2, 1) := by decide +kernel
theorem dTab_breaksKey_12 : decode mTab_breaksKey.2.1 12 = .ok (.invokevirtual 30, 3) := by decide +kernel
theorem dTab_breaksKey_15 : decode mTab_breaksKey.2.1 15 = .ok (.ifCond .ne 12, 3) := by decide +kernel
theorem dTab_breaksKey_18 : decode mTab_breaksKey.2.1 18 = .ok (.aload_n 0, 1) := by decide +kernel
theorem dTab_breaksKey_19 : decode mTab_breaksKey.2.1 19 = .ok (.iconst 2, 1) := by decide +kernel
theorem dTab_breaksKey_20 : decode mTab_breaksKey.2.1 20 = .ok (.iload_n 3, 1) := by decide +kernel
theorem dTab_breaksKey_21 : decode mTab_breaksKey.2.1 21 = .ok (.invokevirtual 30, 3) := by decide +kernel
theorem dTab_breaksKey_24 : decode mTab_breaksKey.2.1 24 = .ok (.ifCond .eq 7, 3) := by decide +kernel
theorem dTab_breaksKey_27 : decode mTab_breaksKey.2.1 27 = .ok (.iconst 1, 1) := by decide +kernel
theorem dTab_breaksKey_28 : decode mTab_breaksKey.2.1 28 = .ok (.goto 4, 3) := by decide +kernel
theorem dTab_breaksKey_31 : decode mTab_breaksKey.2.1 31 = .ok (.iconst 0, 1) := by decide +kernel
theorem dTab_breaksKey_32 : decode mTab_breaksKey.2.1 32 = .ok (.ireturn, 1) := by decide +kernel
def lTab_breaksKey_6 (a1 : Int32) (a2 : Int32) (a3 : Int32) (t : Nat) : List Slot := [.val (.ref t), .val (.int a1), .val (.int a2), .val (.int a3)]
def lTab_breaksKey_15 (a1 : Int32) (a2 : Int32) (a3 : Int32) (t : Nat) : List Slot := [.val (.ref t), .val (.int a1), .val (.int a2), .val (.int a3)]
def lTab_breaksKey_24 (a1 : Int32) (a2 : Int32) (a3 : Int32) (t : Nat) : List Slot := [.val (.ref t), .val (.int a1), .val (.int a2), .val (.int a3)]
def lTab_breaksKey_27 (a1 : Int32) (a2 : Int32) (a3 : Int32) (t : Nat) : List Slot := [.val (.ref t), .val (.int a1), .val (.int a2), .val (.int a3)]
theorem bTab_breaksKey_0 {t : Nat} {a1 : Int32} {a2 : Int32} {a3 : Int32} (hX : X.length = 13) (ht : kTab t) (k1 : QW d mTab_isTaken 0 (qen 4 [.ref t, .int 0, .int a1]) [] (hpo X mem sw o e) (qcl d mTab_breaksKey 3 6 (lTab_breaksKey_6 a1 a2 a3 t) [] P)) : QW (d + 1) mTab_breaksKey 0 (qen 4 [.ref t, .int a1, .int a2, .int a3]) [] (hpo X mem sw o e) P := by
  show QW (d + 1) mTab_breaksKey 0 [.val (.ref t), .val (.int a1), .val (.int a2), .val (.int a3)] [] (hpo X mem sw o e) P
  refine QW.aload_n dTab_breaksKey_0 rfl rfl ?_
  refine QW.iconst (v := 0) dTab_breaksKey_1 (by decide) ?_
  refine QW.iload_n dTab_breaksKey_2 rfl rfl ?_
  exact MW.calV (as := [.int 0, .int a1]) (rest := []) hX dTab_breaksKey_3 eTab_isTaken lTab_30 iTab_isTaken vTab_isTaken rfl rfl (kTab_0 ht) rfl rfl rfl (Nat.le_of_ble_eq_true rfl) rfl k1
theorem bTab_breaksKey_6 {t : Nat} {a1 : Int32} {a2 : Int32} {a3 : Int32} {s0 : Int32} (hX : X.length = 13) (ht : kTab t) (k1 : (¬ s0 = 0) → QW (d + 1) mTab_breaksKey 27 (lTab_breaksKey_27 a1 a2 a3 t) [] (hpo X mem sw o e) P) (k2 : (s0 = 0) → QW d mTab_isTaken 0 (qen 4 [.ref t, .int 1, .int a2]) [] (hpo X mem sw o e) (qcl d mTab_breaksKey 12 15 (lTab_breaksKey_15 a1 a2 a3 t) [] P)) : QW (d + 1) mTab_breaksKey 6 (lTab_breaksKey_6 a1 a2 a3 t) [.int s0] (hpo X mem sw o e) P := by
  show QW (d + 1) mTab_breaksKey 6 [.val (.ref t), .val (.int a1), .val (.int a2), .val (.int a3)] [.int s0] (hpo X mem sw o e) P
  refine QW.if_ne (tgt := 27) dTab_breaksKey_6 (by decide) (fun z0 => ?_) (fun z0 => ?_)
  · exact (k1 z0)
  · refine QW.aload_n dTab_breaksKey_9 rfl rfl ?_
    refine QW.iconst (v := 1) dTab_breaksKey_10 (by decide) ?_
    refine QW.iload_n dTab_breaksKey_11 rfl rfl ?_
    exact MW.calV (as := [.int 1, .int a2]) (rest := []) hX dTab_breaksKey_12 eTab_isTaken lTab_30 iTab_isTaken vTab_isTaken rfl rfl (kTab_0 ht) rfl rfl rfl (Nat.le_of_ble_eq_true rfl) rfl (k2 z0)
theorem bTab_breaksKey_15 {t : Nat} {a1 : Int32} {a2 : Int32} {a3 : Int32} {s0 : Int32} (hX : X.length = 13) (ht : kTab t) (k1 : (¬ s0 = 0) → QW (d + 1) mTab_breaksKey 27 (lTab_breaksKey_27 a1 a2 a3 t) [] (hpo X mem sw o e) P) (k2 : (s0 = 0) → QW d mTab_isTaken 0 (qen 4 [.ref t, .int 2, .int a3]) [] (hpo X mem sw o e) (qcl d mTab_breaksKey 21 24 (lTab_breaksKey_24 a1 a2 a3 t) [] P)) : QW (d + 1) mTab_breaksKey 15 (lTab_breaksKey_15 a1 a2 a3 t) [.int s0] (hpo X mem sw o e) P := by
  show QW (d + 1) mTab_breaksKey 15 [.val (.ref t), .val (.int a1), .val (.int a2), .val (.int a3)] [.int s0] (hpo X mem sw o e) P
  refine QW.if_ne (tgt := 27) dTab_breaksKey_15 (by decide) (fun z0 => ?_) (fun z0 => ?_)
  · exact (k1 z0)
  · refine QW.aload_n dTab_breaksKey_18 rfl rfl ?_
    refine QW.iconst (v := 2) dTab_breaksKey_19 (by decide) ?_
    refine QW.iload_n dTab_breaksKey_20 rfl rfl ?_
    exact MW.calV (as := [.int 2, .int a3]) (rest := []) hX dTab_breaksKey_21 eTab_isTaken lTab_30 iTab_isTaken vTab_isTaken rfl rfl (kTab_0 ht) rfl rfl rfl (Nat.le_of_ble_eq_true rfl) rfl (k2 z0)
theorem bTab_breaksKey_24 {t : Nat} {a1 : Int32} {a2 : Int32} {a3 : Int32} {s0 : Int32} (hX : X.length = 13) (ht : kTab t) (k1 : (s0 = 0) → P (.inl (some (.int 0)), (hpo X mem sw o e))) (k2 : (¬ s0 = 0) → QW d mTab_breaksKey 27 (lTab_breaksKey_27 a1 a2 a3 t) [] (hpo X mem sw o e) P) : QW d mTab_breaksKey 24 (lTab_breaksKey_24 a1 a2 a3 t) [.int s0] (hpo X mem sw o e) P := by
  show QW d mTab_breaksKey 24 [.val (.ref t), .val (.int a1), .val (.int a2), .val (.int a3)] [.int s0] (hpo X mem sw o e) P
  refine QW.if_eq (tgt := 31) dTab_breaksKey_24 (by decide) (fun z0 => ?_) (fun z0 => ?_)
  · refine QW.iconst (v := 0) dTab_breaksKey_31 (by decide) ?_
    exact QW.iret dTab_breaksKey_32 rfl rfl (k1 z0)
  · exact (k2 z0)
theorem bTab_breaksKey_27 {t : Nat} {a1 : Int32} {a2 : Int32} {a3 : Int32} (hX : X.length = 13) (ht : kTab t) (k1 : P (.inl (some (.int 1)), (hpo X mem sw o e))) : QW d mTab_breaksKey 27 (lTab_breaksKey_27 a1 a2 a3 t) [] (hpo X mem sw o e) P := by
  show QW d mTab_breaksKey 27 [.val (.ref t), .val (.int a1), .val (.int a2), .val (.int a3)] [] (hpo X mem sw o e) P
  refine QW.iconst (v := 1) dTab_breaksKey_27 (by decide) ?_
  refine QW.goto (tgt := 32) dTab_breaksKey_28 (by decide) ?_
  exact QW.iret dTab_breaksKey_32 rfl rfl k1
theorem dTab_isTaken_0 : decode mTab_isTaken.2.1 0 = .ok (.aload_n 0, 1) := by decide +kernel
theorem dTab_isTaken_1 : decode mTab_isTaken.2.1 1 = .ok (.getfield 9, 3) := by decide +kernel
theorem dTab_isTaken_4 : decode mTab_isTaken.2.1 4 = .ok (.iload_n 1, 1) := by decide +kernel
theorem dTab_isTaken_5 : decode mTab_isTaken.2.1 5 = .ok (.baload, 1) := by decide +kernel
theorem dTab_isTaken_6 : decode mTab_isTaken.2.1 6 = .ok (.ifCond .ne 5, 3) := by decide +kernel
theorem dTab_isTaken_9 : decode mTab_isTaken.2.1 9 = .ok (.iconst 0, 1) := by decide +kernel
theorem dTab_isTaken_10 : decode mTab_isTaken.2.1 10 = .ok (.ireturn, 1) := by decide +kernel
theorem dTab_isTaken_11 : decode mTab_isTaken.2.1 11 = .ok (.iconst 0, 1) := by decide +kernel
theorem dTab_isTaken_12 : decode mTab_isTaken.2.1 12 = .ok (.istore_n 3, 1) := by decide +kernel
theorem dTab_isTaken_13 : decode mTab_isTaken.2.1 13 = .ok (.iload_n 3, 1) := by decide +kernel
theorem dTab_isTaken_14 : decode mTab_isTaken.2.1 14 = .ok (.aload_n 0, 1) := by decide +kernel
theorem dTab_isTaken_15 : decode mTab_isTaken.2.1 15 = .ok (.getfield 23, 3) := by decide +kernel
theorem dTab_isTaken_18 : decode mTab_isTaken.2.1 18 = .ok (.if_icmp .ge 21, 3) := by decide +kernel
theorem dTab_isTaken_21 : decode mTab_isTaken.2.1 21 = .ok (.aload_n 0, 1) := by decide +kernel
theorem dTab_isTaken_22 : decode mTab_isTaken.2.1 22 = .ok (.iload_n 3, 1) := by decide +kernel
theorem dTab_isTaken_23 : decode mTab_isTaken.2.1 23 = .ok (.iload_n 1, 1) := by decide +kernel
theorem dTab_isTaken_24 : decode mTab_isTaken.2.1 24 = .ok (.invokevirtual 26, 3) := by decide +kernel
theorem dTab_isTaken_27 : decode mTab_isTaken.2.1 27 = .ok (.iload_n 2, 1) := by decide +kernel
theorem dTab_isTaken_28 : decode mTab_isTaken.2.1 28 = .ok (.if_icmp .ne 5, 3) := by decide +kernel
theorem dTab_isTaken_31 : decode mTab_isTaken.2.1 31 = .ok (.iconst 1, 1) := by decide +kernel
theorem dTab_isTaken_32 : decode mTab_isTaken.2.1 32 = .ok (.ireturn, 1) := by decide +kernel
theorem dTab_isTaken_33 : decode mTab_isTaken.2.1 33 = .ok (.iinc 3 1, 3) := by decide +kernel
theorem dTab_isTaken_36 : decode mTab_isTaken.2.1 36 = .ok (.goto (-23), 3) := by decide +kernel
theorem dTab_isTaken_39 : decode mTab_isTaken.2.1 39 = .ok (.iconst 0, 1) := by decide +kernel
theorem dTab_isTaken_40 : decode mTab_isTaken.2.1 40 = .ok (.ireturn, 1) := by decide +kernel
def lTab_isTaken_13 (a1 : Int32) (a2 : Int32) (a3 : Int32) (t : Nat) : List Slot := [.val (.ref t), .val (.int a1), .val (.int a2), .val (.int a3)]
def lTab_isTaken_27 (a1 : Int32) (a2 : Int32) (a3 : Int32) (t : Nat) : List Slot := [.val (.ref t), .val (.int a1), .val (.int a2), .val (.int a3)]
theorem bTab_isTaken_0 {t : Nat} {a1 : Int32} {a2 : Int32} (hX : X.length = 13) (ht : kTab t) (h1 : inx a1 3) (k2 : (¬ (mem (t + 1) (Int32.toNatClampNeg a1)) = 0) → QW d mTab_isTaken 13 (lTab_isTaken_13 a1 a2 0 t) [] (hpo X mem sw o e) P) (k3 : ((mem (t + 1) (Int32.toNatClampNeg a1)) = 0) → P (.inl (some (.int 0)), (hpo X mem sw o e))) : QW d mTab_isTaken 0 (qen 4 [.ref t, .int a1, .int a2]) [] (hpo X mem sw o e) P := by
  show QW d mTab_isTaken 0 [.val (.ref t), .val (.int a1), .val (.int a2), .unset] [] (hpo X mem sw o e) P
  refine QW.aload_n dTab_isTaken_0 rfl rfl ?_
  refine MW.getr (r' := (t + 1)) hX dTab_isTaken_1 fTab_9 (kTab_0 ht) rfl (kTab_s1 ht _) ?_
  refine QW.iload_n dTab_isTaken_4 rfl rfl ?_
  refine MW.zald hX dTab_isTaken_5 (kTab_1 ht) h1.1 (rep_get h1.2) ?_
  refine QW.if_ne (tgt := 11) dTab_isTaken_6 (by decide) (fun z0 => ?_) (fun z0 => ?_)
  · refine QW.iconst (v := 0) dTab_isTaken_11 (by decide) ?_
    refine QW.istore_n (ls' := [.val (.ref t), .val (.int a1), .val (.int a2), .val (.int 0)]) dTab_isTaken_12 rfl rfl ?_
    exact (k2 z0)
  · refine QW.iconst (v := 0) dTab_isTaken_9 (by decide) ?_
    exact QW.iret dTab_isTaken_10 rfl rfl (k3 z0)
theorem bTab_isTaken_13 {t : Nat} {a1 : Int32} {a2 : Int32} {a3 : Int32} (hX : X.length = 13) (ht : kTab t) (k1 : ((mem t 1) ≤ a3) → P (.inl (some (.int 0)), (hpo X mem sw o e))) (k2 : (¬ (mem t 1) ≤ a3) → QW d mTab_cell 0 (qen 3 [.ref t, .int a3, .int a1]) [] (hpo X mem sw o e) (qcl d mTab_isTaken 24 27 (lTab_isTaken_27 a1 a2 a3 t) [] P)) : QW (d + 1) mTab_isTaken 13 (lTab_isTaken_13 a1 a2 a3 t) [] (hpo X mem sw o e) P := by
  show QW (d + 1) mTab_isTaken 13 [.val (.ref t), .val (.int a1), .val (.int a2), .val (.int a3)] [] (hpo X mem sw o e) P
  refine QW.iload_n dTab_isTaken_13 rfl rfl ?_
  refine QW.aload_n dTab_isTaken_14 rfl rfl ?_
  refine MW.geti hX dTab_isTaken_15 fTab_23 (kTab_0 ht) rfl ?_
  refine QW.icmp_ge (tgt := 39) dTab_isTaken_18 (by decide) (fun z0 => ?_) (fun z0 => ?_)
  · refine QW.iconst (v := 0) dTab_isTaken_39 (by decide) ?_
    exact QW.iret dTab_isTaken_40 rfl rfl (k1 z0)
  · refine QW.aload_n dTab_isTaken_21 rfl rfl ?_
    refine QW.iload_n dTab_isTaken_22 rfl rfl ?_
    refine QW.iload_n dTab_isTaken_23 rfl rfl ?_
    exact MW.calV (as := [.int a3, .int a1]) (rest := []) hX dTab_isTaken_24 eTab_cell lTab_26 iTab_cell vTab_cell rfl rfl (kTab_0 ht) rfl rfl rfl (Nat.le_of_ble_eq_true rfl) rfl (k2 z0)
theorem bTab_isTaken_27 {t : Nat} {a1 : Int32} {a2 : Int32} {a3 : Int32} {s0 : Int32} (hX : X.length = 13) (ht : kTab t) (k1 : (¬ s0 = a2) → QW d mTab_isTaken 13 (lTab_isTaken_13 a1 a2 (a3 + 1) t) [] (hpo X mem sw o e) P) (k2 : (s0 = a2) → P (.inl (some (.int 1)), (hpo X mem sw o e))) : QW d mTab_isTaken 27 (lTab_isTaken_27 a1 a2 a3 t) [.int s0] (hpo X mem sw o e) P := by
  show QW d mTab_isTaken 27 [.val (.ref t), .val (.int a1), .val (.int a2), .val (.int a3)] [.int s0] (hpo X mem sw o e) P
  refine QW.iload_n dTab_isTaken_27 rfl rfl ?_
  refine QW.icmp_ne (tgt := 33) dTab_isTaken_28 (by decide) (fun z0 => ?_) (fun z0 => ?_)
  · refine MW.iinc (c := 1) (ls' := [.val (.ref t), .val (.int a1), .val (.int a2), .val (.int (a3 + 1))]) dTab_isTaken_33 (by decide) rfl rfl ?_
    refine QW.goto (tgt := 13) dTab_isTaken_36 (by decide) ?_
    exact (k1 z0)
  · refine QW.iconst (v := 1) dTab_isTaken_31 (by decide) ?_
    exact QW.iret dTab_isTaken_32 rfl rfl (k2 z0)
theorem dTab_append_0 : decode mTab_append.2.1 0 = .ok (.aload_n 0, 1) := by decide +kernel
theorem dTab_append_1 : decode mTab_append.2.1 1 = .ok (.getfield 23, 3) := by decide +kernel
theorem dTab_append_4 : decode mTab_append.2.1 4 = .ok (.iconst 3, 1) := by decide +kernel
theorem dTab_append_5 : decode mTab_append.2.1 5 = .ok (.imul, 1) := by decide +kernel
theorem dTab_append_6 : decode mTab_append.2.1 6 = .ok (.istore 4, 2) := by decide +kernel
theorem dTab_append_8 : decode mTab_append.2.1 8 = .ok (.aload_n 0, 1) := by decide +kernel
theorem dTab_append_9 : decode mTab_append.2.1 9 = .ok (.getfield 15, 3) := by decide +kernel
theorem dTab_append_12 : decode mTab_append.2.1 12 = .ok (.iload 4, 2) := by decide +kernel
theorem dTab_append_14 : decode mTab_append.2.1 14 = .ok (.iload_n 1, 1) := by decide +kernel
theorem dTab_append_15 : decode mTab_append.2.1 15 = .ok (.iastore, 1) := by decide +kernel
theorem dTab_append_16 : decode mTab_append.2.1 16 = .ok (.aload_n 0, 1) := by decide +kernel
theorem dTab_append_17 : decode mTab_append.2.1 17 = .ok (.getfield 15, 3) := by decide +kernel
theorem dTab_append_20 : decode mTab_append.2.1 20 = .ok (.iload 4, 2) := by decide +kernel
theorem dTab_append_22 : decode mTab_append.2.1 22 = .ok (.iconst 1, 1) := by decide +kernel
theorem dTab_append_23 : decode mTab_append.2.1 23 = .ok (.iadd, 1) := by decide +kernel
theorem dTab_append_24 : decode mTab_append.2.1 24 = .ok (.iload_n 2, 1) := by decide +kernel
theorem dTab_append_25 : decode mTab_append.2.1 25 = .ok (.iastore, 1) := by decide +kernel
theorem dTab_append_26 : decode mTab_append.2.1 26 = .ok (.aload_n 0, 1) := by decide +kernel
theorem dTab_append_27 : decode mTab_append.2.1 27 = .ok (.getfield 15, 3) := by decide +kernel
theorem dTab_append_30 : decode mTab_append.2.1 30 = .ok (.iload 4, 2) := by decide +kernel
theorem dTab_append_32 : decode mTab_append.2.1 32 = .ok (.iconst 2, 1) := by decide +kernel
theorem dTab_append_33 : decode mTab_append.2.1 33 = .ok (.iadd, 1) := by decide +kernel
theorem dTab_append_34 : decode mTab_append.2.1 34 = .ok (.iload_n 3, 1) := by decide +kernel
theorem dTab_append_35 : decode mTab_append.2.1 35 = .ok (.iastore, 1) := by decide +kernel
theorem dTab_append_36 : decode mTab_append.2.1 36 = .ok (.aload_n 0, 1) := by decide +kernel
theorem dTab_append_37 : decode mTab_append.2.1 37 = .ok (.dup, 1) := by decide +kernel
theorem dTab_append_38 : decode mTab_append.2.1 38 = .ok (.getfield 23, 3) := by decide +kernel
theorem dTab_append_41 : decode mTab_append.2.1 41 = .ok (.iconst 1, 1) := by decide +kernel
theorem dTab_append_42 : decode mTab_append.2.1 42 = .ok (.iadd, 1) := by decide +kernel
theorem dTab_append_43 : decode mTab_append.2.1 43 = .ok (.putfield 23, 3) := by decide +kernel
theorem dTab_append_46 : decode mTab_append.2.1 46 = .ok (.aload_n 0, 1) := by decide +kernel
theorem dTab_append_47 : decode mTab_append.2.1 47 = .ok (.getfield 23, 3) := by decide +kernel
theorem dTab_append_50 : decode mTab_append.2.1 50 = .ok (.ireturn, 1) := by decide +kernel
theorem bTab_append_0 {t : Nat} {a1 : Int32} {a2 : Int32} {a3 : Int32} (hX : X.length = 13) (ht : kTab t) (h1 : inx ((mem t 1) * 3) 24) (h2 : inx (((mem t 1) * 3) + 1) 24) (h3 : inx (((mem t 1) * 3) + 2) 24) (k4 : P (.inl (some (.int ((mup (mup (mup (mup mem (t + 2) (Int32.toNatClampNeg ((mem t 1) * 3)) a1) (t + 2) (Int32.toNatClampNeg (((mem t 1) * 3) + 1)) a2) (t + 2) (Int32.toNatClampNeg (((mem t 1) * 3) + 2)) a3) t 1 (((mup (mup (mup mem (t + 2) (Int32.toNatClampNeg ((mem t 1) * 3)) a1) (t + 2) (Int32.toNatClampNeg (((mem t 1) * 3) + 1)) a2) (t + 2) (Int32.toNatClampNeg (((mem t 1) * 3) + 2)) a3) t 1) + 1)) t 1))), (hpo X (mup (mup (mup (mup mem (t + 2) (Int32.toNatClampNeg ((mem t 1) * 3)) a1) (t + 2) (Int32.toNatClampNeg (((mem t 1) * 3) + 1)) a2) (t + 2) (Int32.toNatClampNeg (((mem t 1) * 3) + 2)) a3) t 1 (((mup (mup (mup mem (t + 2) (Int32.toNatClampNeg ((mem t 1) * 3)) a1) (t + 2) (Int32.toNatClampNeg (((mem t 1) * 3) + 1)) a2) (t + 2) (Int32.toNatClampNeg (((mem t 1) * 3) + 2)) a3) t 1) + 1)) sw o e))) : QW d mTab_append 0 (qen 5 [.ref t, .int a1, .int a2, .int a3]) [] (hpo X mem sw o e) P := by
  show QW d mTab_append 0 [.val (.ref t), .val (.int a1), .val (.int a2), .val (.int a3), .unset] [] (hpo X mem sw o e) P
  refine QW.aload_n dTab_append_0 rfl rfl ?_
  refine MW.geti hX dTab_append_1 fTab_23 (kTab_0 ht) rfl ?_
  refine QW.iconst (v := 3) dTab_append_4 (by decide) ?_
  refine QW.imul dTab_append_5 ?_
  refine QW.istore (ls' := [.val (.ref t), .val (.int a1), .val (.int a2), .val (.int a3), .val (.int ((mem t 1) * 3))]) dTab_append_6 rfl ?_
  refine QW.aload_n dTab_append_8 rfl rfl ?_
  refine MW.getr (r' := (t + 2)) hX dTab_append_9 fTab_15 (kTab_0 ht) rfl (kTab_s2 ht _) ?_
  refine QW.iload dTab_append_12 rfl ?_
  refine QW.iload_n dTab_append_14 rfl rfl ?_
  refine MW.iast hX dTab_append_15 (kTab_2 ht) h1.1 (rep_get h1.2) ?_
  refine QW.aload_n dTab_append_16 rfl rfl ?_
  refine MW.getr (r' := (t + 2)) hX dTab_append_17 fTab_15 (kTab_0 ht) rfl (kTab_s2 ht _) ?_
  refine QW.iload dTab_append_20 rfl ?_
  refine QW.iconst (v := 1) dTab_append_22 (by decide) ?_
  refine QW.iadd dTab_append_23 ?_
  refine QW.iload_n dTab_append_24 rfl rfl ?_
  refine MW.iast hX dTab_append_25 (kTab_2 ht) h2.1 (rep_get h2.2) ?_
  refine QW.aload_n dTab_append_26 rfl rfl ?_
  refine MW.getr (r' := (t + 2)) hX dTab_append_27 fTab_15 (kTab_0 ht) rfl (kTab_s2 ht _) ?_
  refine QW.iload dTab_append_30 rfl ?_
  refine QW.iconst (v := 2) dTab_append_32 (by decide) ?_
  refine QW.iadd dTab_append_33 ?_
  refine QW.iload_n dTab_append_34 rfl rfl ?_
  refine MW.iast hX dTab_append_35 (kTab_2 ht) h3.1 (rep_get h3.2) ?_
  refine QW.aload_n dTab_append_36 rfl rfl ?_
  refine QW.dup dTab_append_37 rfl ?_
  refine MW.geti hX dTab_append_38 fTab_23 (kTab_0 ht) rfl ?_
  refine QW.iconst (v := 1) dTab_append_41 (by decide) ?_
  refine QW.iadd dTab_append_42 ?_
  refine MW.puti hX dTab_append_43 fTab_23 (kTab_0 ht) rfl rfl ?_
  refine QW.aload_n dTab_append_46 rfl rfl ?_
  refine MW.geti hX dTab_append_47 fTab_23 (kTab_0 ht) rfl ?_
  exact QW.iret dTab_append_50 rfl rfl k4
theorem dTxt_clear_0 : decode mTxt_clear.2.1 0 = .ok (.aload_n 0, 1) := by decide +kernel
theorem dTxt_clear_1 : decode mTxt_clear.2.1 1 = .ok (.getfield 19, 3) := by decide +kernel
theorem dTxt_clear_4 : decode mTxt_clear.2.1 4 = .ok (.istore_n 1, 1) := by decide +kernel
theorem dTxt_clear_5 : decode mTxt_clear.2.1 5 = .ok (.aload_n 0, 1) := by decide +kernel
theorem dTxt_clear_6 : decode mTxt_clear.2.1 6 = .ok (.iconst 0, 1) := by decide +kernel
theorem dTxt_clear_7 : decode mTxt_clear.2.1 7 = .ok (.putfield 19, 3) := by decide +kernel
theorem dTxt_clear_10 : decode mTxt_clear.2.1 10 = .ok (.iload_n 1, 1) := by decide +kernel
theorem dTxt_clear_11 : decode mTxt_clear.2.1 11 = .ok (.ireturn, 1) := by decide +kernel
theorem bTxt_clear_0 (hX : X.length = 13) (k1 : P (.inl (some (.int (mem 28 1))), (hpo X (mup mem 28 1 0) sw o e))) : QW d mTxt_clear 0 (qen 2 [.ref 28]) [] (hpo X mem sw o e) P := by
  show QW d mTxt_clear 0 [.val (.ref 28), .unset] [] (hpo X mem sw o e) P
  refine QW.aload_n dTxt_clear_0 rfl rfl ?_
  refine MW.geti hX dTxt_clear_1 fTxt_19 rfl rfl ?_
  refine QW.istore_n (ls' := [.val (.ref 28), .val (.int (mem 28 1))]) dTxt_clear_4 rfl rfl ?_
  refine QW.aload_n dTxt_clear_5 rfl rfl ?_
  refine QW.iconst (v := 0) dTxt_clear_6 (by decide) ?_
  refine MW.puti hX dTxt_clear_7 fTxt_19 rfl rfl rfl ?_
  refine QW.iload_n dTxt_clear_10 rfl rfl ?_
  exact QW.iret dTxt_clear_11 rfl rfl k1
theorem dMo_thrown_0 : decode mMo_thrown.2.1 0 = .ok (.aload_n 0, 1) := by decide +kernel
theorem dMo_thrown_1 : decode mMo_thrown.2.1 1 = .ok (.getfield 106, 3) := by decide +kernel
theorem dMo_thrown_4 : decode mMo_thrown.2.1 4 = .ok (.ireturn, 1) := by decide +kernel
theorem bMo_thrown_0 (hX : X.length = 13) (k1 : P (.inl (some (.int (mem 193 0))), (hpo X mem sw o e))) : QW d mMo_thrown 0 (qen 1 [.ref 193]) [] (hpo X mem sw o e) P := by
  show QW d mMo_thrown 0 [.val (.ref 193)] [] (hpo X mem sw o e) P
  refine QW.aload_n dMo_thrown_0 rfl rfl ?_
  refine MW.geti hX dMo_thrown_1 fMo_106 rfl rfl ?_
  exact QW.iret dMo_thrown_4 rfl rfl k1
theorem dMo_isColumn_0 : decode mMo_isColumn.2.1 0 = .ok (.iload_n 1, 1) := by decide +kernel
theorem dMo_isColumn_1 : decode mMo_isColumn.2.1 1 = .ok (.ifCond .lt 29, 3) := by decide +kernel
theorem dMo_isColumn_4 : decode mMo_isColumn.2.1 4 = .ok (.iload_n 1, 1) := by decide +kernel
theorem dMo_isColumn_5 : decode mMo_isColumn.2.1 5 = .ok (.aload_n 0, 1) := by decide +kernel
theorem dMo_isColumn_6 : decode mMo_isColumn.2.1 6 = .ok (.getfield 109, 3) := by decide +kernel
theorem dMo_isColumn_9 : decode mMo_isColumn.2.1 9 = .ok (.if_icmp .ge 21, 3) := by decide +kernel
theorem dMo_isColumn_12 : decode mMo_isColumn.2.1 12 = .ok (.iload_n 2, 1) := by decide +kernel
theorem dMo_isColumn_13 : decode mMo_isColumn.2.1 13 = .ok (.ifCond .lt 17, 3) := by decide +kernel
theorem dMo_isColumn_16 : decode mMo_isColumn.2.1 16 = .ok (.iload_n 2, 1) := by decide +kernel
theorem dMo_isColumn_17 : decode mMo_isColumn.2.1 17 = .ok (.aload_n 0, 1) := by decide +kernel
theorem dMo_isColumn_18 : decode mMo_isColumn.2.1 18 = .ok (.getfield 7, 3) := by decide +kernel
theorem dMo_isColumn_21 : decode mMo_isColumn.2.1 21 = .ok (.iload_n 1, 1) := by decide +kernel
theorem dMo_isColumn_22 : decode mMo_isColumn.2.1 22 = .ok (.iaload, 1) := by decide +kernel
theorem dMo_isColumn_23 : decode mMo_isColumn.2.1 23 = .ok (.if_icmp .ge 7, 3) := by decide +kernel
theorem dMo_isColumn_26 : decode mMo_isColumn.2.1 26 = .ok (.iconst 1, 1) := by decide +kernel
theorem dMo_isColumn_27 : decode mMo_isColumn.2.1 27 = .ok (.goto 4, 3) := by decide +kernel
theorem dMo_isColumn_30 : decode mMo_isColumn.2.1 30 = .ok (.iconst 0, 1) := by decide +kernel
theorem dMo_isColumn_31 : decode mMo_isColumn.2.1 31 = .ok (.ireturn, 1) := by decide +kernel
theorem bMo_isColumn_0 {a1 : Int32} {a2 : Int32} (hX : X.length = 13) (k1 : (a1 < 0) → P (.inl (some (.int 0)), (hpo X mem sw o e))) (k2 : (¬ a1 < 0) → ((mem 193 1) ≤ a1) → P (.inl (some (.int 0)), (hpo X mem sw o e))) (k3 : (¬ a1 < 0) → (¬ (mem 193 1) ≤ a1) → (a2 < 0) → P (.inl (some (.int 0)), (hpo X mem sw o e))) (h4 : (¬ a1 < 0) → (¬ (mem 193 1) ≤ a1) → (¬ a2 < 0) → inx a1 4) (k5 : (¬ a1 < 0) → (¬ (mem 193 1) ≤ a1) → (¬ a2 < 0) → ((mem 194 (Int32.toNatClampNeg a1)) ≤ a2) → P (.inl (some (.int 0)), (hpo X mem sw o e))) (k6 : (¬ a1 < 0) → (¬ (mem 193 1) ≤ a1) → (¬ a2 < 0) → (¬ (mem 194 (Int32.toNatClampNeg a1)) ≤ a2) → P (.inl (some (.int 1)), (hpo X mem sw o e))) : QW d mMo_isColumn 0 (qen 3 [.ref 193, .int a1, .int a2]) [] (hpo X mem sw o e) P := by
  show QW d mMo_isColumn 0 [.val (.ref 193), .val (.int a1), .val (.int a2)] [] (hpo X mem sw o e) P
  refine QW.iload_n dMo_isColumn_0 rfl rfl ?_
  refine QW.if_lt (tgt := 30) dMo_isColumn_1 (by decide) (fun z0 => ?_) (fun z0 => ?_)
  · refine QW.iconst (v := 0) dMo_isColumn_30 (by decide) ?_
    exact QW.iret dMo_isColumn_31 rfl rfl (k1 z0)
  · refine QW.iload_n dMo_isColumn_4 rfl rfl ?_
    refine QW.aload_n dMo_isColumn_5 rfl rfl ?_
    refine MW.geti hX dMo_isColumn_6 fMo_109 rfl rfl ?_
    refine QW.icmp_ge (tgt := 30) dMo_isColumn_9 (by decide) (fun z1 => ?_) (fun z1 => ?_)
    · refine QW.iconst (v := 0) dMo_isColumn_30 (by decide) ?_
      exact QW.iret dMo_isColumn_31 rfl rfl (k2 z0 z1)
    · refine QW.iload_n dMo_isColumn_12 rfl rfl ?_
      refine QW.if_lt (tgt := 30) dMo_isColumn_13 (by decide) (fun z2 => ?_) (fun z2 => ?_)
      · refine QW.iconst (v := 0) dMo_isColumn_30 (by decide) ?_
        exact QW.iret dMo_isColumn_31 rfl rfl (k3 z0 z1 z2)
      · refine QW.iload_n dMo_isColumn_16 rfl rfl ?_
        refine QW.aload_n dMo_isColumn_17 rfl rfl ?_
        refine MW.getr (r' := 194) hX dMo_isColumn_18 fMo_7 rfl rfl (by cases sw <;> rfl) ?_
        refine QW.iload_n dMo_isColumn_21 rfl rfl ?_
        refine MW.iald hX dMo_isColumn_22 rfl (h4 z0 z1 z2).1 (rep_get (h4 z0 z1 z2).2) ?_
        refine QW.icmp_ge (tgt := 30) dMo_isColumn_23 (by decide) (fun z3 => ?_) (fun z3 => ?_)
        · refine QW.iconst (v := 0) dMo_isColumn_30 (by decide) ?_
          exact QW.iret dMo_isColumn_31 rfl rfl (k5 z0 z1 z2 z3)
        · refine QW.iconst (v := 1) dMo_isColumn_26 (by decide) ?_
          refine QW.goto (tgt := 31) dMo_isColumn_27 (by decide) ?_
          exact QW.iret dMo_isColumn_31 rfl rfl (k6 z0 z1 z2 z3)
theorem dMo_table_0 : decode mMo_table.2.1 0 = .ok (.aload_n 0, 1) := by decide +kernel
theorem dMo_table_1 : decode mMo_table.2.1 1 = .ok (.iload_n 1, 1) := by decide +kernel
theorem dMo_table_2 : decode mMo_table.2.1 2 = .ok (.iconst 1, 1) := by decide +kernel
theorem dMo_table_3 : decode mMo_table.2.1 3 = .ok (.if_icmp .lt 8, 3) := by decide +kernel
theorem dMo_table_6 : decode mMo_table.2.1 6 = .ok (.iload_n 1, 1) := by decide +kernel
theorem dMo_table_7 : decode mMo_table.2.1 7 = .ok (.iconst 3, 1) := by decide +kernel
theorem dMo_table_8 : decode mMo_table.2.1 8 = .ok (.if_icmp .le 7, 3) := by decide +kernel
theorem dMo_table_11 : decode mMo_table.2.1 11 = .ok (.iconst 1, 1) := by decide +kernel
theorem dMo_table_12 : decode mMo_table.2.1 12 = .ok (.goto 16, 3) := by decide +kernel
theorem dMo_table_15 : decode mMo_table.2.1 15 = .ok (.aload_n 0, 1) := by decide +kernel
theorem dMo_table_16 : decode mMo_table.2.1 16 = .ok (.getfield 109, 3) := by decide +kernel
theorem dMo_table_19 : decode mMo_table.2.1 19 = .ok (.iconst 4, 1) := by decide +kernel
theorem dMo_table_20 : decode mMo_table.2.1 20 = .ok (.if_icmp .ne 7, 3) := by decide +kernel
theorem dMo_table_23 : decode mMo_table.2.1 23 = .ok (.iconst 2, 1) := by decide +kernel
theorem dMo_table_24 : decode mMo_table.2.1 24 = .ok (.goto 4, 3) := by decide +kernel
theorem dMo_table_27 : decode mMo_table.2.1 27 = .ok (.iconst 0, 1) := by decide +kernel
theorem dMo_table_28 : decode mMo_table.2.1 28 = .ok (.putfield 106, 3) := by decide +kernel
theorem dMo_table_31 : decode mMo_table.2.1 31 = .ok (.aload_n 0, 1) := by decide +kernel
theorem dMo_table_32 : decode mMo_table.2.1 32 = .ok (.getfield 106, 3) := by decide +kernel
theorem dMo_table_35 : decode mMo_table.2.1 35 = .ok (.ifCond .le 5, 3) := by decide +kernel
theorem dMo_table_38 : decode mMo_table.2.1 38 = .ok (.iconst 0, 1) := by decide +kernel
theorem dMo_table_39 : decode mMo_table.2.1 39 = .ok (.ireturn, 1) := by decide +kernel
theorem dMo_table_40 : decode mMo_table.2.1 40 = .ok (.aload_n 0, 1) := by decide +kernel
theorem dMo_table_41 : decode mMo_table.2.1 41 = .ok (.getfield 7, 3) := by decide +kernel
theorem dMo_table_44 : decode mMo_table.2.1 44 = .ok (.aload_n 0, 1) := by decide +kernel
theorem dMo_table_45 : decode mMo_table.2.1 45 = .ok (.getfield 109, 3) := by decide +kernel
theorem dMo_table_48 : decode mMo_table.2.1 48 = .ok (.iload_n 1, 1) := by decide +kernel
theorem dMo_table_49 : decode mMo_table.2.1 49 = .ok (.iastore, 1) := by decide +kernel
theorem dMo_table_50 : decode mMo_table.2.1 50 = .ok (.aload_n 0, 1) := by decide +kernel
theorem dMo_table_51 : decode mMo_table.2.1 51 = .ok (.dup, 1) := by decide +kernel
theorem dMo_table_52 : decode mMo_table.2.1 52 = .ok (.getfield 109, 3) := by decide +kernel
theorem dMo_table_55 : decode mMo_table.2.1 55 = .ok (.iconst 1, 1) := by decide +kernel
theorem dMo_table_56 : decode mMo_table.2.1 56 = .ok (.iadd, 1) := by decide +kernel
theorem dMo_table_57 : decode mMo_table.2.1 57 = .ok (.putfield 109, 3) := by decide +kernel
theorem dMo_table_60 : decode mMo_table.2.1 60 = .ok (.aload_n 0, 1) := by decide +kernel
theorem dMo_table_61 : decode mMo_table.2.1 61 = .ok (.getfield 109, 3) := by decide +kernel
theorem dMo_table_64 : decode mMo_table.2.1 64 = .ok (.iconst 1, 1) := by decide +kernel
theorem dMo_table_65 : decode mMo_table.2.1 65 = .ok (.isub, 1) := by decide +kernel
theorem dMo_table_66 : decode mMo_table.2.1 66 = .ok (.ireturn, 1) := by decide +kernel
def lMo_table_11 (a1 : Int32) : List Slot := [.val (.ref 193), .val (.int a1)]
def lMo_table_28 (a1 : Int32) : List Slot := [.val (.ref 193), .val (.int a1)]
theorem bMo_table_0 {a1 : Int32} (hX : X.length = 13) (k1 : (a1 < 1) → QW d mMo_table 11 (lMo_table_11 a1) [.ref 193] (hpo X mem sw o e) P) (k2 : (¬ a1 < 1) → (a1 ≤ 3) → (¬ (mem 193 1) = 4) → QW d mMo_table 28 (lMo_table_28 a1) [.int 0, .ref 193] (hpo X mem sw o e) P) (k3 : (¬ a1 < 1) → (a1 ≤ 3) → ((mem 193 1) = 4) → QW d mMo_table 28 (lMo_table_28 a1) [.int 2, .ref 193] (hpo X mem sw o e) P) (k4 : (¬ a1 < 1) → (¬ a1 ≤ 3) → QW d mMo_table 11 (lMo_table_11 a1) [.ref 193] (hpo X mem sw o e) P) : QW d mMo_table 0 (qen 2 [.ref 193, .int a1]) [] (hpo X mem sw o e) P := by
  show QW d mMo_table 0 [.val (.ref 193), .val (.int a1)] [] (hpo X mem sw o e) P
  refine QW.aload_n dMo_table_0 rfl rfl ?_
  refine QW.iload_n dMo_table_1 rfl rfl ?_
  refine QW.iconst (v := 1) dMo_table_2 (by decide) ?_
  refine QW.icmp_lt (tgt := 11) dMo_table_3 (by decide) (fun z0 => ?_) (fun z0 => ?_)
  · exact (k1 z0)
  · refine QW.iload_n dMo_table_6 rfl rfl ?_
    refine QW.iconst (v := 3) dMo_table_7 (by decide) ?_
    refine QW.icmp_le (tgt := 15) dMo_table_8 (by decide) (fun z1 => ?_) (fun z1 => ?_)
    · refine QW.aload_n dMo_table_15 rfl rfl ?_
      refine MW.geti hX dMo_table_16 fMo_109 rfl rfl ?_
      refine QW.iconst (v := 4) dMo_table_19 (by decide) ?_
      refine QW.icmp_ne (tgt := 27) dMo_table_20 (by decide) (fun z2 => ?_) (fun z2 => ?_)
      · refine QW.iconst (v := 0) dMo_table_27 (by decide) ?_
        exact (k2 z0 z1 z2)
      · refine QW.iconst (v := 2) dMo_table_23 (by decide) ?_
        refine QW.goto (tgt := 28) dMo_table_24 (by decide) ?_
        exact (k3 z0 z1 z2)
    · exact (k4 z0 z1)
theorem bMo_table_11 {a1 : Int32} (hX : X.length = 13) (k1 : QW d mMo_table 28 (lMo_table_28 a1) [.int 1, .ref 193] (hpo X mem sw o e) P) : QW d mMo_table 11 (lMo_table_11 a1) [.ref 193] (hpo X mem sw o e) P := by
  show QW d mMo_table 11 [.val (.ref 193), .val (.int a1)] [.ref 193] (hpo X mem sw o e) P
  refine QW.iconst (v := 1) dMo_table_11 (by decide) ?_
  refine QW.goto (tgt := 28) dMo_table_12 (by decide) ?_
  exact k1
theorem bMo_table_28 {a1 : Int32} {s1 : Int32} (hX : X.length = 13) (h1 : (((mup mem 193 0 s1) 193 0) ≤ 0) → inx ((mup mem 193 0 s1) 193 1) 4) (k2 : (((mup mem 193 0 s1) 193 0) ≤ 0) → P (.inl (some (.int (((mup (mup (mup mem 193 0 s1) 194 (Int32.toNatClampNeg ((mup mem 193 0 s1) 193 1)) a1) 193 1 (((mup (mup mem 193 0 s1) 194 (Int32.toNatClampNeg ((mup mem 193 0 s1) 193 1)) a1) 193 1) + 1)) 193 1) - 1))), (hpo X (mup (mup (mup mem 193 0 s1) 194 (Int32.toNatClampNeg ((mup mem 193 0 s1) 193 1)) a1) 193 1 (((mup (mup mem 193 0 s1) 194 (Int32.toNatClampNeg ((mup mem 193 0 s1) 193 1)) a1) 193 1) + 1)) sw o e))) (k3 : (¬ ((mup mem 193 0 s1) 193 0) ≤ 0) → P (.inl (some (.int 0)), (hpo X (mup mem 193 0 s1) sw o e))) : QW d mMo_table 28 (lMo_table_28 a1) [.int s1, .ref 193] (hpo X mem sw o e) P := by
  show QW d mMo_table 28 [.val (.ref 193), .val (.int a1)] [.int s1, .ref 193] (hpo X mem sw o e) P
  refine MW.puti hX dMo_table_28 fMo_106 rfl rfl rfl ?_
  refine QW.aload_n dMo_table_31 rfl rfl ?_
  refine MW.geti hX dMo_table_32 fMo_106 rfl rfl ?_
  refine QW.if_le (tgt := 40) dMo_table_35 (by decide) (fun z0 => ?_) (fun z0 => ?_)
  · refine QW.aload_n dMo_table_40 rfl rfl ?_
    refine MW.getr (r' := 194) hX dMo_table_41 fMo_7 rfl rfl (by cases sw <;> rfl) ?_
    refine QW.aload_n dMo_table_44 rfl rfl ?_
    refine MW.geti hX dMo_table_45 fMo_109 rfl rfl ?_
    refine QW.iload_n dMo_table_48 rfl rfl ?_
    refine MW.iast hX dMo_table_49 rfl (h1 z0).1 (rep_get (h1 z0).2) ?_
    refine QW.aload_n dMo_table_50 rfl rfl ?_
    refine QW.dup dMo_table_51 rfl ?_
    refine MW.geti hX dMo_table_52 fMo_109 rfl rfl ?_
    refine QW.iconst (v := 1) dMo_table_55 (by decide) ?_
    refine QW.iadd dMo_table_56 ?_
    refine MW.puti hX dMo_table_57 fMo_109 rfl rfl rfl ?_
    refine QW.aload_n dMo_table_60 rfl rfl ?_
    refine MW.geti hX dMo_table_61 fMo_109 rfl rfl ?_
    refine QW.iconst (v := 1) dMo_table_64 (by decide) ?_
    refine QW.isub dMo_table_65 ?_
    exact QW.iret dMo_table_66 rfl rfl (k2 z0)
  · refine QW.iconst (v := 0) dMo_table_38 (by decide) ?_
    exact QW.iret dMo_table_39 rfl rfl (k3 z0)
theorem dMo_having_0 : decode mMo_having.2.1 0 = .ok (.iconst 0, 1) := by decide +kernel
theorem dMo_having_1 : decode mMo_having.2.1 1 = .ok (.istore 4, 2) := by decide +kernel
theorem dMo_having_3 : decode mMo_having.2.1 3 = .ok (.iconst 0, 1) := by decide +kernel
theorem dMo_having_4 : decode mMo_having.2.1 4 = .ok (.istore 5, 2) := by decide +kernel
theorem dMo_having_6 : decode mMo_having.2.1 6 = .ok (.iload 5, 2) := by decide +kernel
theorem dMo_having_8 : decode mMo_having.2.1 8 = .ok (.aload_n 0, 1) := by decide +kernel
theorem dMo_having_9 : decode mMo_having.2.1 9 = .ok (.getfield 13, 3) := by decide +kernel
theorem dMo_having_12 : decode mMo_having.2.1 12 = .ok (.iload_n 1, 1) := by decide +kernel
theorem dMo_having_13 : decode mMo_having.2.1 13 = .ok (.iaload, 1) := by decide +kernel
theorem dMo_having_14 : decode mMo_having.2.1 14 = .ok (.if_icmp .ge 39, 3) := by decide +kernel
theorem dMo_having_17 : decode mMo_having.2.1 17 = .ok (.iload 4, 2) := by decide +kernel
theorem dMo_having_19 : decode mMo_having.2.1 19 = .ok (.aload_n 0, 1) := by decide +kernel
theorem dMo_having_20 : decode mMo_having.2.1 20 = .ok (.getfield 16, 3) := by decide +kernel
theorem dMo_having_23 : decode mMo_having.2.1 23 = .ok (.bipush 24, 2) := by decide +kernel
theorem dMo_having_25 : decode mMo_having.2.1 25 = .ok (.iload_n 1, 1) := by decide +kernel
theorem dMo_having_26 : decode mMo_having.2.1 26 = .ok (.imul, 1) := by decide +kernel
theorem dMo_having_27 : decode mMo_having.2.1 27 = .ok (.iconst 3, 1) := by decide +kernel
theorem dMo_having_28 : decode mMo_having.2.1 28 = .ok (.iload 5, 2) := by decide +kernel
theorem dMo_having_30 : decode mMo_having.2.1 30 = .ok (.imul, 1) := by decide +kernel
theorem dMo_having_31 : decode mMo_having.2.1 31 = .ok (.iadd, 1) := by decide +kernel
theorem dMo_having_32 : decode mMo_having.2.1 32 = .ok (.iload_n 2, 1) := by decide +kernel
theorem dMo_having_33 : decode mMo_having.2.1 33 = .ok (.iadd, 1) := by decide +kernel
theorem dMo_having_34 : decode mMo_having.2.1 34 = .ok (.iaload, 1) := by decide +kernel
theorem dMo_having_35 : decode mMo_having.2.1 35 = .ok (.iload_n 3, 1) := by decide +kernel
theorem dMo_having_36 : decode mMo_having.2.1 36 = .ok (.if_icmp .ne 7, 3) := by decide +kernel
theorem dMo_having_39 : decode mMo_having.2.1 39 = .ok (.iconst 1, 1) := by decide +kernel
theorem dMo_having_40 : decode mMo_having.2.1 40 = .ok (.goto 4, 3) := by decide +kernel
theorem dMo_having_43 : decode mMo_having.2.1 43 = .ok (.iconst 0, 1) := by decide +kernel
theorem dMo_having_44 : decode mMo_having.2.1 44 = .ok (.iadd, 1) := by decide +kernel
theorem dMo_having_45 : decode mMo_having.2.1 45 = .ok (.istore 4, 2) := by decide +kernel
theorem dMo_having_47 : decode mMo_having.2.1 47 = .ok (.iinc 5 1, 3) := by decide +kernel
theorem dMo_having_50 : decode mMo_having.2.1 50 = .ok (.goto (-44), 3) := by decide +kernel
theorem dMo_having_53 : decode mMo_having.2.1 53 = .ok (.iload 4, 2) := by decide +kernel
theorem dMo_having_55 : decode mMo_having.2.1 55 = .ok (.ireturn, 1) := by decide +kernel
def lMo_having_6 (a1 : Int32) (a2 : Int32) (a3 : Int32) (a4 : Int32) (a5 : Int32) : List Slot := [.val (.ref 193), .val (.int a1), .val (.int a2), .val (.int a3), .val (.int a4), .val (.int a5)]
def lMo_having_44 (a1 : Int32) (a2 : Int32) (a3 : Int32) (a4 : Int32) (a5 : Int32) : List Slot := [.val (.ref 193), .val (.int a1), .val (.int a2), .val (.int a3), .val (.int a4), .val (.int a5)]
theorem bMo_having_0 {a1 : Int32} {a2 : Int32} {a3 : Int32} (hX : X.length = 13) (k1 : QW d mMo_having 6 (lMo_having_6 a1 a2 a3 0 0) [] (hpo X mem sw o e) P) : QW d mMo_having 0 (qen 6 [.ref 193, .int a1, .int a2, .int a3]) [] (hpo X mem sw o e) P := by
  show QW d mMo_having 0 [.val (.ref 193), .val (.int a1), .val (.int a2), .val (.int a3), .unset, .unset] [] (hpo X mem sw o e) P
  refine QW.iconst (v := 0) dMo_having_0 (by decide) ?_
  refine QW.istore (ls' := [.val (.ref 193), .val (.int a1), .val (.int a2), .val (.int a3), .val (.int 0), .unset]) dMo_having_1 rfl ?_
  refine QW.iconst (v := 0) dMo_having_3 (by decide) ?_
  refine QW.istore (ls' := [.val (.ref 193), .val (.int a1), .val (.int a2), .val (.int a3), .val (.int 0), .val (.int 0)]) dMo_having_4 rfl ?_
  exact k1
theorem bMo_having_6 {a1 : Int32} {a2 : Int32} {a3 : Int32} {a4 : Int32} {a5 : Int32} (hX : X.length = 13) (h1 : inx a1 4) (k2 : ((mem 195 (Int32.toNatClampNeg a1)) ≤ a5) → P (.inl (some (.int a4)), (hpo X mem sw o e))) (h3 : (¬ (mem 195 (Int32.toNatClampNeg a1)) ≤ a5) → inx (((24 * a1) + (3 * a5)) + a2) 96) (k4 : (¬ (mem 195 (Int32.toNatClampNeg a1)) ≤ a5) → (¬ (mem 196 (Int32.toNatClampNeg (((24 * a1) + (3 * a5)) + a2))) = a3) → QW d mMo_having 44 (lMo_having_44 a1 a2 a3 a4 a5) [.int 0, .int a4] (hpo X mem sw o e) P) (k5 : (¬ (mem 195 (Int32.toNatClampNeg a1)) ≤ a5) → ((mem 196 (Int32.toNatClampNeg (((24 * a1) + (3 * a5)) + a2))) = a3) → QW d mMo_having 44 (lMo_having_44 a1 a2 a3 a4 a5) [.int 1, .int a4] (hpo X mem sw o e) P) : QW d mMo_having 6 (lMo_having_6 a1 a2 a3 a4 a5) [] (hpo X mem sw o e) P := by
  show QW d mMo_having 6 [.val (.ref 193), .val (.int a1), .val (.int a2), .val (.int a3), .val (.int a4), .val (.int a5)] [] (hpo X mem sw o e) P
  refine QW.iload dMo_having_6 rfl ?_
  refine QW.aload_n dMo_having_8 rfl rfl ?_
  refine MW.getr (r' := 195) hX dMo_having_9 fMo_13 rfl rfl (by cases sw <;> rfl) ?_
  refine QW.iload_n dMo_having_12 rfl rfl ?_
  refine MW.iald hX dMo_having_13 rfl h1.1 (rep_get h1.2) ?_
  refine QW.icmp_ge (tgt := 53) dMo_having_14 (by decide) (fun z0 => ?_) (fun z0 => ?_)
  · refine QW.iload dMo_having_53 rfl ?_
    exact QW.iret dMo_having_55 rfl rfl (k2 z0)
  · refine QW.iload dMo_having_17 rfl ?_
    refine QW.aload_n dMo_having_19 rfl rfl ?_
    refine MW.getr (r' := 196) hX dMo_having_20 fMo_16 rfl rfl (by cases sw <;> rfl) ?_
    refine QW.bipush (v := 24) dMo_having_23 (by decide) ?_
    refine QW.iload_n dMo_having_25 rfl rfl ?_
    refine QW.imul dMo_having_26 ?_
    refine QW.iconst (v := 3) dMo_having_27 (by decide) ?_
    refine QW.iload dMo_having_28 rfl ?_
    refine QW.imul dMo_having_30 ?_
    refine QW.iadd dMo_having_31 ?_
    refine QW.iload_n dMo_having_32 rfl rfl ?_
    refine QW.iadd dMo_having_33 ?_
    refine MW.iald hX dMo_having_34 rfl (h3 z0).1 (rep_get (h3 z0).2) ?_
    refine QW.iload_n dMo_having_35 rfl rfl ?_
    refine QW.icmp_ne (tgt := 43) dMo_having_36 (by decide) (fun z1 => ?_) (fun z1 => ?_)
    · refine QW.iconst (v := 0) dMo_having_43 (by decide) ?_
      exact (k4 z0 z1)
    · refine QW.iconst (v := 1) dMo_having_39 (by decide) ?_
      refine QW.goto (tgt := 44) dMo_having_40 (by decide) ?_
      exact (k5 z0 z1)
theorem bMo_having_44 {a1 : Int32} {a2 : Int32} {a3 : Int32} {a4 : Int32} {a5 : Int32} {s1 : Int32} {s0 : Int32} (hX : X.length = 13) (k1 : QW d mMo_having 6 (lMo_having_6 a1 a2 a3 (s0 + s1) (a5 + 1)) [] (hpo X mem sw o e) P) : QW d mMo_having 44 (lMo_having_44 a1 a2 a3 a4 a5) [.int s1, .int s0] (hpo X mem sw o e) P := by
  show QW d mMo_having 44 [.val (.ref 193), .val (.int a1), .val (.int a2), .val (.int a3), .val (.int a4), .val (.int a5)] [.int s1, .int s0] (hpo X mem sw o e) P
  refine QW.iadd dMo_having_44 ?_
  refine QW.istore (ls' := [.val (.ref 193), .val (.int a1), .val (.int a2), .val (.int a3), .val (.int (s0 + s1)), .val (.int a5)]) dMo_having_45 rfl ?_
  refine MW.iinc (c := 1) (ls' := [.val (.ref 193), .val (.int a1), .val (.int a2), .val (.int a3), .val (.int (s0 + s1)), .val (.int (a5 + 1))]) dMo_having_47 (by decide) rfl rfl ?_
  refine QW.goto (tgt := 6) dMo_having_50 (by decide) ?_
  exact k1
theorem dMo_key_0 : decode mMo_key.2.1 0 = .ok (.aload_n 0, 1) := by decide +kernel
theorem dMo_key_1 : decode mMo_key.2.1 1 = .ok (.aload_n 0, 1) := by decide +kernel
theorem dMo_key_2 : decode mMo_key.2.1 2 = .ok (.iload_n 1, 1) := by decide +kernel
theorem dMo_key_3 : decode mMo_key.2.1 3 = .ok (.iload_n 2, 1) := by decide +kernel
theorem dMo_key_4 : decode mMo_key.2.1 4 = .ok (.invokevirtual 112, 3) := by decide +kernel
theorem dMo_key_7 : decode mMo_key.2.1 7 = .ok (.ifCond .eq 7, 3) := by decide +kernel
theorem dMo_key_10 : decode mMo_key.2.1 10 = .ok (.iconst 0, 1) := by decide +kernel
theorem dMo_key_11 : decode mMo_key.2.1 11 = .ok (.goto 4, 3) := by decide +kernel
theorem dMo_key_14 : decode mMo_key.2.1 14 = .ok (.iconst 1, 1) := by decide +kernel
theorem dMo_key_15 : decode mMo_key.2.1 15 = .ok (.putfield 106, 3) := by decide +kernel
theorem dMo_key_18 : decode mMo_key.2.1 18 = .ok (.iconst 0, 1) := by decide +kernel
theorem dMo_key_19 : decode mMo_key.2.1 19 = .ok (.istore_n 3, 1) := by decide +kernel
theorem dMo_key_20 : decode mMo_key.2.1 20 = .ok (.aload_n 0, 1) := by decide +kernel
theorem dMo_key_21 : decode mMo_key.2.1 21 = .ok (.getfield 106, 3) := by decide +kernel
theorem dMo_key_24 : decode mMo_key.2.1 24 = .ok (.ifCond .ne 53, 3) := by decide +kernel
theorem dMo_key_27 : decode mMo_key.2.1 27 = .ok (.iload_n 3, 1) := by decide +kernel
theorem dMo_key_28 : decode mMo_key.2.1 28 = .ok (.aload_n 0, 1) := by decide +kernel
theorem dMo_key_29 : decode mMo_key.2.1 29 = .ok (.getfield 13, 3) := by decide +kernel
theorem dMo_key_32 : decode mMo_key.2.1 32 = .ok (.iload_n 1, 1) := by decide +kernel
theorem dMo_key_33 : decode mMo_key.2.1 33 = .ok (.iaload, 1) := by decide +kernel
theorem dMo_key_34 : decode mMo_key.2.1 34 = .ok (.if_icmp .ge 43, 3) := by decide +kernel
theorem dMo_key_37 : decode mMo_key.2.1 37 = .ok (.aload_n 0, 1) := by decide +kernel
theorem dMo_key_38 : decode mMo_key.2.1 38 = .ok (.aload_n 0, 1) := by decide +kernel
theorem dMo_key_39 : decode mMo_key.2.1 39 = .ok (.iload_n 1, 1) := by decide +kernel
theorem dMo_key_40 : decode mMo_key.2.1 40 = .ok (.iload_n 2, 1) := by decide +kernel
theorem dMo_key_41 : decode mMo_key.2.1 41 = .ok (.aload_n 0, 1) := by decide +kernel
theorem dMo_key_42 : decode mMo_key.2.1 42 = .ok (.getfield 16, 3) := by decide +kernel
theorem dMo_key_45 : decode mMo_key.2.1 45 = .ok (.bipush 24, 2) := by decide +kernel
theorem dMo_key_47 : decode mMo_key.2.1 47 = .ok (.iload_n 1, 1) := by decide +kernel
theorem dMo_key_48 : decode mMo_key.2.1 48 = .ok (.imul, 1) := by decide +kernel
theorem dMo_key_49 : decode mMo_key.2.1 49 = .ok (.iconst 3, 1) := by decide +kernel
theorem dMo_key_50 : decode mMo_key.2.1 50 = .ok (.iload_n 3, 1) := by decide +kernel
theorem dMo_key_51 : decode mMo_key.2.1 51 = .ok (.imul, 1) := by decide +kernel
theorem dMo_key_52 : decode mMo_key.2.1 52 = .ok (.iadd, 1) := by decide +kernel
theorem dMo_key_53 : decode mMo_key.2.1 53 = .ok (.iload_n 2, 1) := by decide +kernel
theorem dMo_key_54 : decode mMo_key.2.1 54 = .ok (.iadd, 1) := by decide +kernel
theorem dMo_key_55 : decode mMo_key.2.1 55 = .ok (.iaload, 1) := by decide +kernel
theorem dMo_key_56 : decode mMo_key.2.1 56 = .ok (.invokevirtual 116, 3) := by decide +kernel
theorem dMo_key_59 : decode mMo_key.2.1 59 = .ok (.iconst 1, 1) := by decide +kernel
theorem dMo_key_60 : decode mMo_key.2.1 60 = .ok (.if_icmp .le 7, 3) := by decide +kernel
theorem dMo_key_63 : decode mMo_key.2.1 63 = .ok (.iconst 2, 1) := by decide +kernel
theorem dMo_key_64 : decode mMo_key.2.1 64 = .ok (.goto 4, 3) := by decide +kernel
theorem dMo_key_67 : decode mMo_key.2.1 67 = .ok (.iconst 0, 1) := by decide +kernel
theorem dMo_key_68 : decode mMo_key.2.1 68 = .ok (.putfield 106, 3) := by decide +kernel
theorem dMo_key_71 : decode mMo_key.2.1 71 = .ok (.iinc 3 1, 3) := by decide +kernel
theorem dMo_key_74 : decode mMo_key.2.1 74 = .ok (.goto (-54), 3) := by decide +kernel
theorem dMo_key_77 : decode mMo_key.2.1 77 = .ok (.aload_n 0, 1) := by decide +kernel
theorem dMo_key_78 : decode mMo_key.2.1 78 = .ok (.getfield 106, 3) := by decide +kernel
theorem dMo_key_81 : decode mMo_key.2.1 81 = .ok (.ifCond .ne 14, 3) := by decide +kernel
theorem dMo_key_84 : decode mMo_key.2.1 84 = .ok (.aload_n 0, 1) := by decide +kernel
theorem dMo_key_85 : decode mMo_key.2.1 85 = .ok (.getfield 19, 3) := by decide +kernel
theorem dMo_key_88 : decode mMo_key.2.1 88 = .ok (.iconst 3, 1) := by decide +kernel
theorem dMo_key_89 : decode mMo_key.2.1 89 = .ok (.iload_n 1, 1) := by decide +kernel
theorem dMo_key_90 : decode mMo_key.2.1 90 = .ok (.imul, 1) := by decide +kernel
theorem dMo_key_91 : decode mMo_key.2.1 91 = .ok (.iload_n 2, 1) := by decide +kernel
theorem dMo_key_92 : decode mMo_key.2.1 92 = .ok (.iadd, 1) := by decide +kernel
theorem dMo_key_93 : decode mMo_key.2.1 93 = .ok (.iconst 1, 1) := by decide +kernel
theorem dMo_key_94 : decode mMo_key.2.1 94 = .ok (.bastore, 1) := by decide +kernel
theorem dMo_key_95 : decode mMo_key.2.1 95 = .ok (.return_, 1) := by decide +kernel
def lMo_key_7 (a1 : Int32) (a2 : Int32) : List Slot := [.val (.ref 193), .val (.int a1), .val (.int a2), .unset]
def lMo_key_15 (a1 : Int32) (a2 : Int32) : List Slot := [.val (.ref 193), .val (.int a1), .val (.int a2), .unset]
def lMo_key_20 (a1 : Int32) (a2 : Int32) (a3 : Int32) : List Slot := [.val (.ref 193), .val (.int a1), .val (.int a2), .val (.int a3)]
def lMo_key_59 (a1 : Int32) (a2 : Int32) (a3 : Int32) : List Slot := [.val (.ref 193), .val (.int a1), .val (.int a2), .val (.int a3)]
def lMo_key_68 (a1 : Int32) (a2 : Int32) (a3 : Int32) : List Slot := [.val (.ref 193), .val (.int a1), .val (.int a2), .val (.int a3)]
def lMo_key_77 (a1 : Int32) (a2 : Int32) (a3 : Int32) : List Slot := [.val (.ref 193), .val (.int a1), .val (.int a2), .val (.int a3)]
theorem bMo_key_0 {a1 : Int32} {a2 : Int32} (hX : X.length = 13) (k1 : QW d mMo_isColumn 0 (qen 3 [.ref 193, .int a1, .int a2]) [] (hpo X mem sw o e) (qcl d mMo_key 4 7 (lMo_key_7 a1 a2) [.ref 193] P)) : QW (d + 1) mMo_key 0 (qen 4 [.ref 193, .int a1, .int a2]) [] (hpo X mem sw o e) P := by
  show QW (d + 1) mMo_key 0 [.val (.ref 193), .val (.int a1), .val (.int a2), .unset] [] (hpo X mem sw o e) P
  refine QW.aload_n dMo_key_0 rfl rfl ?_
  refine QW.aload_n dMo_key_1 rfl rfl ?_
  refine QW.iload_n dMo_key_2 rfl rfl ?_
  refine QW.iload_n dMo_key_3 rfl rfl ?_
  exact MW.calV (as := [.int a1, .int a2]) (rest := [.ref 193]) hX dMo_key_4 eMo_isColumn lMo_112 iMo_isColumn vMo_isColumn rfl rfl rfl rfl rfl rfl (Nat.le_of_ble_eq_true rfl) rfl k1
theorem bMo_key_7 {a1 : Int32} {a2 : Int32} {s1 : Int32} (hX : X.length = 13) (k1 : (s1 = 0) → QW d mMo_key 15 (lMo_key_15 a1 a2) [.int 1, .ref 193] (hpo X mem sw o e) P) (k2 : (¬ s1 = 0) → QW d mMo_key 15 (lMo_key_15 a1 a2) [.int 0, .ref 193] (hpo X mem sw o e) P) : QW d mMo_key 7 (lMo_key_7 a1 a2) [.int s1, .ref 193] (hpo X mem sw o e) P := by
  show QW d mMo_key 7 [.val (.ref 193), .val (.int a1), .val (.int a2), .unset] [.int s1, .ref 193] (hpo X mem sw o e) P
  refine QW.if_eq (tgt := 14) dMo_key_7 (by decide) (fun z0 => ?_) (fun z0 => ?_)
  · refine QW.iconst (v := 1) dMo_key_14 (by decide) ?_
    exact (k1 z0)
  · refine QW.iconst (v := 0) dMo_key_10 (by decide) ?_
    refine QW.goto (tgt := 15) dMo_key_11 (by decide) ?_
    exact (k2 z0)
theorem bMo_key_15 {a1 : Int32} {a2 : Int32} {s1 : Int32} (hX : X.length = 13) (k1 : QW d mMo_key 20 (lMo_key_20 a1 a2 0) [] (hpo X (mup mem 193 0 s1) sw o e) P) : QW d mMo_key 15 (lMo_key_15 a1 a2) [.int s1, .ref 193] (hpo X mem sw o e) P := by
  show QW d mMo_key 15 [.val (.ref 193), .val (.int a1), .val (.int a2), .unset] [.int s1, .ref 193] (hpo X mem sw o e) P
  refine MW.puti hX dMo_key_15 fMo_106 rfl rfl rfl ?_
  refine QW.iconst (v := 0) dMo_key_18 (by decide) ?_
  refine QW.istore_n (ls' := [.val (.ref 193), .val (.int a1), .val (.int a2), .val (.int 0)]) dMo_key_19 rfl rfl ?_
  exact k1
theorem bMo_key_20 {a1 : Int32} {a2 : Int32} {a3 : Int32} (hX : X.length = 13) (k1 : (¬ (mem 193 0) = 0) → QW (d + 1) mMo_key 77 (lMo_key_77 a1 a2 a3) [] (hpo X mem sw o e) P) (h2 : ((mem 193 0) = 0) → inx a1 4) (k3 : ((mem 193 0) = 0) → ((mem 195 (Int32.toNatClampNeg a1)) ≤ a3) → QW (d + 1) mMo_key 77 (lMo_key_77 a1 a2 a3) [] (hpo X mem sw o e) P) (h4 : ((mem 193 0) = 0) → (¬ (mem 195 (Int32.toNatClampNeg a1)) ≤ a3) → inx (((24 * a1) + (3 * a3)) + a2) 96) (k5 : ((mem 193 0) = 0) → (¬ (mem 195 (Int32.toNatClampNeg a1)) ≤ a3) → QW d mMo_having 0 (qen 6 [.ref 193, .int a1, .int a2, .int (mem 196 (Int32.toNatClampNeg (((24 * a1) + (3 * a3)) + a2)))]) [] (hpo X mem sw o e) (qcl d mMo_key 56 59 (lMo_key_59 a1 a2 a3) [.ref 193] P)) : QW (d + 1) mMo_key 20 (lMo_key_20 a1 a2 a3) [] (hpo X mem sw o e) P := by
  show QW (d + 1) mMo_key 20 [.val (.ref 193), .val (.int a1), .val (.int a2), .val (.int a3)] [] (hpo X mem sw o e) P
  refine QW.aload_n dMo_key_20 rfl rfl ?_
  refine MW.geti hX dMo_key_21 fMo_106 rfl rfl ?_
  refine QW.if_ne (tgt := 77) dMo_key_24 (by decide) (fun z0 => ?_) (fun z0 => ?_)
  · exact (k1 z0)
  · refine QW.iload_n dMo_key_27 rfl rfl ?_
    refine QW.aload_n dMo_key_28 rfl rfl ?_
    refine MW.getr (r' := 195) hX dMo_key_29 fMo_13 rfl rfl (by cases sw <;> rfl) ?_
    refine QW.iload_n dMo_key_32 rfl rfl ?_
    refine MW.iald hX dMo_key_33 rfl (h2 z0).1 (rep_get (h2 z0).2) ?_
    refine QW.icmp_ge (tgt := 77) dMo_key_34 (by decide) (fun z1 => ?_) (fun z1 => ?_)
    · exact (k3 z0 z1)
    · refine QW.aload_n dMo_key_37 rfl rfl ?_
      refine QW.aload_n dMo_key_38 rfl rfl ?_
      refine QW.iload_n dMo_key_39 rfl rfl ?_
      refine QW.iload_n dMo_key_40 rfl rfl ?_
      refine QW.aload_n dMo_key_41 rfl rfl ?_
      refine MW.getr (r' := 196) hX dMo_key_42 fMo_16 rfl rfl (by cases sw <;> rfl) ?_
      refine QW.bipush (v := 24) dMo_key_45 (by decide) ?_
      refine QW.iload_n dMo_key_47 rfl rfl ?_
      refine QW.imul dMo_key_48 ?_
      refine QW.iconst (v := 3) dMo_key_49 (by decide) ?_
      refine QW.iload_n dMo_key_50 rfl rfl ?_
      refine QW.imul dMo_key_51 ?_
      refine QW.iadd dMo_key_52 ?_
      refine QW.iload_n dMo_key_53 rfl rfl ?_
      refine QW.iadd dMo_key_54 ?_
      refine MW.iald hX dMo_key_55 rfl (h4 z0 z1).1 (rep_get (h4 z0 z1).2) ?_
      exact MW.calV (as := [.int a1, .int a2, .int (mem 196 (Int32.toNatClampNeg (((24 * a1) + (3 * a3)) + a2)))]) (rest := [.ref 193]) hX dMo_key_56 eMo_having lMo_116 iMo_having vMo_having rfl rfl rfl rfl rfl rfl (Nat.le_of_ble_eq_true rfl) rfl (k5 z0 z1)
theorem bMo_key_59 {a1 : Int32} {a2 : Int32} {a3 : Int32} {s1 : Int32} (hX : X.length = 13) (k1 : (s1 ≤ 1) → QW d mMo_key 68 (lMo_key_68 a1 a2 a3) [.int 0, .ref 193] (hpo X mem sw o e) P) (k2 : (¬ s1 ≤ 1) → QW d mMo_key 68 (lMo_key_68 a1 a2 a3) [.int 2, .ref 193] (hpo X mem sw o e) P) : QW d mMo_key 59 (lMo_key_59 a1 a2 a3) [.int s1, .ref 193] (hpo X mem sw o e) P := by
  show QW d mMo_key 59 [.val (.ref 193), .val (.int a1), .val (.int a2), .val (.int a3)] [.int s1, .ref 193] (hpo X mem sw o e) P
  refine QW.iconst (v := 1) dMo_key_59 (by decide) ?_
  refine QW.icmp_le (tgt := 67) dMo_key_60 (by decide) (fun z0 => ?_) (fun z0 => ?_)
  · refine QW.iconst (v := 0) dMo_key_67 (by decide) ?_
    exact (k1 z0)
  · refine QW.iconst (v := 2) dMo_key_63 (by decide) ?_
    refine QW.goto (tgt := 68) dMo_key_64 (by decide) ?_
    exact (k2 z0)
theorem bMo_key_68 {a1 : Int32} {a2 : Int32} {a3 : Int32} {s1 : Int32} (hX : X.length = 13) (k1 : QW d mMo_key 20 (lMo_key_20 a1 a2 (a3 + 1)) [] (hpo X (mup mem 193 0 s1) sw o e) P) : QW d mMo_key 68 (lMo_key_68 a1 a2 a3) [.int s1, .ref 193] (hpo X mem sw o e) P := by
  show QW d mMo_key 68 [.val (.ref 193), .val (.int a1), .val (.int a2), .val (.int a3)] [.int s1, .ref 193] (hpo X mem sw o e) P
  refine MW.puti hX dMo_key_68 fMo_106 rfl rfl rfl ?_
  refine MW.iinc (c := 1) (ls' := [.val (.ref 193), .val (.int a1), .val (.int a2), .val (.int (a3 + 1))]) dMo_key_71 (by decide) rfl rfl ?_
  refine QW.goto (tgt := 20) dMo_key_74 (by decide) ?_
  exact k1
theorem bMo_key_77 {a1 : Int32} {a2 : Int32} {a3 : Int32} (hX : X.length = 13) (k1 : (¬ (mem 193 0) = 0) → P (.inl none, (hpo X mem sw o e))) (h2 : ((mem 193 0) = 0) → inx ((3 * a1) + a2) 12) (k3 : ((mem 193 0) = 0) → P (.inl none, (hpo X (mup mem 197 (Int32.toNatClampNeg ((3 * a1) + a2)) 1) sw o e))) : QW d mMo_key 77 (lMo_key_77 a1 a2 a3) [] (hpo X mem sw o e) P := by
  show QW d mMo_key 77 [.val (.ref 193), .val (.int a1), .val (.int a2), .val (.int a3)] [] (hpo X mem sw o e) P
  refine QW.aload_n dMo_key_77 rfl rfl ?_
  refine MW.geti hX dMo_key_78 fMo_106 rfl rfl ?_
  refine QW.if_ne (tgt := 95) dMo_key_81 (by decide) (fun z0 => ?_) (fun z0 => ?_)
  · exact QW.vret dMo_key_95 rfl (k1 z0)
  · refine QW.aload_n dMo_key_84 rfl rfl ?_
    refine MW.getr (r' := 197) hX dMo_key_85 fMo_19 rfl rfl (by cases sw <;> rfl) ?_
    refine QW.iconst (v := 3) dMo_key_88 (by decide) ?_
    refine QW.iload_n dMo_key_89 rfl rfl ?_
    refine QW.imul dMo_key_90 ?_
    refine QW.iload_n dMo_key_91 rfl rfl ?_
    refine QW.iadd dMo_key_92 ?_
    refine QW.iconst (v := 1) dMo_key_93 (by decide) ?_
    refine MW.zast hX dMo_key_94 rfl (h2 z0).1 (rep_get (h2 z0).2) rfl ?_
    exact QW.vret dMo_key_95 rfl (k3 z0)
theorem dMo_insert_0 : decode mMo_insert.2.1 0 = .ok (.aload_n 0, 1) := by decide +kernel
theorem dMo_insert_1 : decode mMo_insert.2.1 1 = .ok (.iload_n 1, 1) := by decide +kernel
theorem dMo_insert_2 : decode mMo_insert.2.1 2 = .ok (.ifCond .lt 11, 3) := by decide +kernel
theorem dMo_insert_5 : decode mMo_insert.2.1 5 = .ok (.iload_n 1, 1) := by decide +kernel
theorem dMo_insert_6 : decode mMo_insert.2.1 6 = .ok (.aload_n 0, 1) := by decide +kernel
theorem dMo_insert_7 : decode mMo_insert.2.1 7 = .ok (.getfield 109, 3) := by decide +kernel
theorem dMo_insert_10 : decode mMo_insert.2.1 10 = .ok (.if_icmp .lt 7, 3) := by decide +kernel
theorem dMo_insert_13 : decode mMo_insert.2.1 13 = .ok (.iconst 1, 1) := by decide +kernel
theorem dMo_insert_14 : decode mMo_insert.2.1 14 = .ok (.goto 19, 3) := by decide +kernel
theorem dMo_insert_17 : decode mMo_insert.2.1 17 = .ok (.aload_n 0, 1) := by decide +kernel
theorem dMo_insert_18 : decode mMo_insert.2.1 18 = .ok (.getfield 13, 3) := by decide +kernel
theorem dMo_insert_21 : decode mMo_insert.2.1 21 = .ok (.iload_n 1, 1) := by decide +kernel
theorem dMo_insert_22 : decode mMo_insert.2.1 22 = .ok (.iaload, 1) := by decide +kernel
theorem dMo_insert_23 : decode mMo_insert.2.1 23 = .ok (.bipush 8, 2) := by decide +kernel
theorem dMo_insert_25 : decode mMo_insert.2.1 25 = .ok (.if_icmp .ne 7, 3) := by decide +kernel
theorem dMo_insert_28 : decode mMo_insert.2.1 28 = .ok (.iconst 2, 1) := by decide +kernel
theorem dMo_insert_29 : decode mMo_insert.2.1 29 = .ok (.goto 4, 3) := by decide +kernel
theorem dMo_insert_32 : decode mMo_insert.2.1 32 = .ok (.iconst 0, 1) := by decide +kernel
theorem dMo_insert_33 : decode mMo_insert.2.1 33 = .ok (.putfield 106, 3) := by decide +kernel
theorem dMo_insert_36 : decode mMo_insert.2.1 36 = .ok (.aload_n 0, 1) := by decide +kernel
theorem dMo_insert_37 : decode mMo_insert.2.1 37 = .ok (.getfield 106, 3) := by decide +kernel
theorem dMo_insert_40 : decode mMo_insert.2.1 40 = .ok (.ifCond .le 5, 3) := by decide +kernel
theorem dMo_insert_43 : decode mMo_insert.2.1 43 = .ok (.iconst 0, 1) := by decide +kernel
theorem dMo_insert_44 : decode mMo_insert.2.1 44 = .ok (.ireturn, 1) := by decide +kernel
theorem dMo_insert_45 : decode mMo_insert.2.1 45 = .ok (.iconst 0, 1) := by decide +kernel
theorem dMo_insert_46 : decode mMo_insert.2.1 46 = .ok (.istore 5, 2) := by decide +kernel
theorem dMo_insert_48 : decode mMo_insert.2.1 48 = .ok (.iload 5, 2) := by decide +kernel
theorem dMo_insert_50 : decode mMo_insert.2.1 50 = .ok (.aload_n 0, 1) := by decide +kernel
theorem dMo_insert_51 : decode mMo_insert.2.1 51 = .ok (.getfield 7, 3) := by decide +kernel
theorem dMo_insert_54 : decode mMo_insert.2.1 54 = .ok (.iload_n 1, 1) := by decide +kernel
theorem dMo_insert_55 : decode mMo_insert.2.1 55 = .ok (.iaload, 1) := by decide +kernel
theorem dMo_insert_56 : decode mMo_insert.2.1 56 = .ok (.if_icmp .ge 70, 3) := by decide +kernel
theorem dMo_insert_59 : decode mMo_insert.2.1 59 = .ok (.iload 5, 2) := by decide +kernel
theorem dMo_insert_61 : decode mMo_insert.2.1 61 = .ok (.ifCond .ne 7, 3) := by decide +kernel
theorem dMo_insert_64 : decode mMo_insert.2.1 64 = .ok (.iload_n 2, 1) := by decide +kernel
theorem dMo_insert_65 : decode mMo_insert.2.1 65 = .ok (.goto 15, 3) := by decide +kernel
theorem dMo_insert_68 : decode mMo_insert.2.1 68 = .ok (.iload 5, 2) := by decide +kernel
theorem dMo_insert_70 : decode mMo_insert.2.1 70 = .ok (.iconst 1, 1) := by decide +kernel
theorem dMo_insert_71 : decode mMo_insert.2.1 71 = .ok (.if_icmp .ne 7, 3) := by decide +kernel
theorem dMo_insert_74 : decode mMo_insert.2.1 74 = .ok (.iload_n 3, 1) := by decide +kernel
theorem dMo_insert_75 : decode mMo_insert.2.1 75 = .ok (.goto 5, 3) := by decide +kernel
theorem dMo_insert_78 : decode mMo_insert.2.1 78 = .ok (.iload 4, 2) := by decide +kernel
theorem dMo_insert_80 : decode mMo_insert.2.1 80 = .ok (.istore 6, 2) := by decide +kernel
theorem dMo_insert_82 : decode mMo_insert.2.1 82 = .ok (.aload_n 0, 1) := by decide +kernel
theorem dMo_insert_83 : decode mMo_insert.2.1 83 = .ok (.aload_n 0, 1) := by decide +kernel
theorem dMo_insert_84 : decode mMo_insert.2.1 84 = .ok (.getfield 19, 3) := by decide +kernel
theorem dMo_insert_87 : decode mMo_insert.2.1 87 = .ok (.iconst 3, 1) := by decide +kernel
theorem dMo_insert_88 : decode mMo_insert.2.1 88 = .ok (.iload_n 1, 1) := by decide +kernel
theorem dMo_insert_89 : decode mMo_insert.2.1 89 = .ok (.imul, 1) := by decide +kernel
theorem dMo_insert_90 : decode mMo_insert.2.1 90 = .ok (.iload 5, 2) := by decide +kernel
theorem dMo_insert_92 : decode mMo_insert.2.1 92 = .ok (.iadd, 1) := by decide +kernel
theorem dMo_insert_93 : decode mMo_insert.2.1 93 = .ok (.baload, 1) := by decide +kernel
theorem dMo_insert_94 : decode mMo_insert.2.1 94 = .ok (.ifCond .eq 19, 3) := by decide +kernel
theorem dMo_insert_97 : decode mMo_insert.2.1 97 = .ok (.aload_n 0, 1) := by decide +kernel
theorem dMo_insert_98 : decode mMo_insert.2.1 98 = .ok (.iload_n 1, 1) := by decide +kernel
theorem dMo_insert_99 : decode mMo_insert.2.1 99 = .ok (.iload 5, 2) := by decide +kernel
theorem dMo_insert_101 : decode mMo_insert.2.1 101 = .ok (.iload 6, 2) := by decide +kernel
theorem dMo_insert_103 : decode mMo_insert.2.1 103 = .ok (.invokevirtual 116, 3) := by decide +kernel
theorem dMo_insert_106 : decode mMo_insert.2.1 106 = .ok (.ifCond .le 7, 3) := by decide +kernel
theorem dMo_insert_109 : decode mMo_insert.2.1 109 = .ok (.iconst 2, 1) := by decide +kernel
theorem dMo_insert_110 : decode mMo_insert.2.1 110 = .ok (.goto 7, 3) := by decide +kernel
theorem dMo_insert_113 : decode mMo_insert.2.1 113 = .ok (.aload_n 0, 1) := by decide +kernel
theorem dMo_insert_114 : decode mMo_insert.2.1 114 = .ok (.getfield 106, 3) := by decide +kernel
theorem dMo_insert_117 : decode mMo_insert.2.1 117 = .ok (.putfield 106, 3) := by decide +kernel
theorem dMo_insert_120 : decode mMo_insert.2.1 120 = .ok (.iinc 5 1, 3) := by decide +kernel
theorem dMo_insert_123 : decode mMo_insert.2.1 123 = .ok (.goto (-75), 3) := by decide +kernel
theorem dMo_insert_126 : decode mMo_insert.2.1 126 = .ok (.aload_n 0, 1) := by decide +kernel
theorem dMo_insert_127 : decode mMo_insert.2.1 127 = .ok (.getfield 106, 3) := by decide +kernel
theorem dMo_insert_130 : decode mMo_insert.2.1 130 = .ok (.ifCond .le 5, 3) := by decide +kernel
theorem dMo_insert_133 : decode mMo_insert.2.1 133 = .ok (.iconst 0, 1) := by decide +kernel
theorem dMo_insert_134 : decode mMo_insert.2.1 134 = .ok (.ireturn, 1) := by decide +kernel
theorem dMo_insert_135 : decode mMo_insert.2.1 135 = .ok (.bipush 24, 2) := by decide +kernel
theorem dMo_insert_137 : decode mMo_insert.2.1 137 = .ok (.iload_n 1, 1) := by decide +kernel
theorem dMo_insert_138 : decode mMo_insert.2.1 138 = .ok (.imul, 1) := by decide +kernel
theorem dMo_insert_139 : decode mMo_insert.2.1 139 = .ok (.iconst 3, 1) := by decide +kernel
theorem dMo_insert_140 : decode mMo_insert.2.1 140 = .ok (.aload_n 0, 1) := by decide +kernel
theorem dMo_insert_141 : decode mMo_insert.2.1 141 = .ok (.getfield 13, 3) := by decide +kernel
theorem dMo_insert_144 : decode mMo_insert.2.1 144 = .ok (.iload_n 1, 1) := by decide +kernel
theorem dMo_insert_145 : decode mMo_insert.2.1 145 = .ok (.iaload, 1) := by decide +kernel
theorem dMo_insert_146 : decode mMo_insert.2.1 146 = .ok (.imul, 1) := by decide +kernel
theorem dMo_insert_147 : decode mMo_insert.2.1 147 = .ok (.iadd, 1) := by decide +kernel
theorem dMo_insert_148 : decode mMo_insert.2.1 148 = .ok (.istore 5, 2) := by decide +kernel
theorem dMo_insert_150 : decode mMo_insert.2.1 150 = .ok (.aload_n 0, 1) := by decide +kernel
theorem dMo_insert_151 : decode mMo_insert.2.1 151 = .ok (.getfield 16, 3) := by decide +kernel
theorem dMo_insert_154 : decode mMo_insert.2.1 154 = .ok (.iload 5, 2) := by decide +kernel
theorem dMo_insert_156 : decode mMo_insert.2.1 156 = .ok (.iload_n 2, 1) := by decide +kernel
theorem dMo_insert_157 : decode mMo_insert.2.1 157 = .ok (.iastore, 1) := by decide +kernel
theorem dMo_insert_158 : decode mMo_insert.2.1 158 = .ok (.aload_n 0, 1) := by decide +kernel
theorem dMo_insert_159 : decode mMo_insert.2.1 159 = .ok (.getfield 16, 3) := by decide +kernel
theorem dMo_insert_162 : decode mMo_insert.2.1 162 = .ok (.iload 5, 2) := by decide +kernel
theorem dMo_insert_164 : decode mMo_insert.2.1 164 = .ok (.iconst 1, 1) := by decide +kernel
theorem dMo_insert_165 : decode mMo_insert.2.1 165 = .ok (.iadd, 1) := by decide +kernel
theorem dMo_insert_166 : decode mMo_insert.2.1 166 = .ok (.iload_n 3, 1) := by decide +kernel
theorem dMo_insert_167 : decode mMo_insert.2.1 167 = .ok (.iastore, 1) := by decide +kernel
theorem dMo_insert_168 : decode mMo_insert.2.1 168 = .ok (.aload_n 0, 1) := by decide +kernel
theorem dMo_insert_169 : decode mMo_insert.2.1 169 = .ok (.getfield 16, 3) := by decide +kernel
theorem dMo_insert_172 : decode mMo_insert.2.1 172 = .ok (.iload 5, 2) := by decide +kernel
theorem dMo_insert_174 : decode mMo_insert.2.1 174 = .ok (.iconst 2, 1) := by decide +kernel
theorem dMo_insert_175 : decode mMo_insert.2.1 175 = .ok (.iadd, 1) := by decide +kernel
theorem dMo_insert_176 : decode mMo_insert.2.1 176 = .ok (.iload 4, 2) := by decide +kernel
theorem dMo_insert_178 : decode mMo_insert.2.1 178 = .ok (.iastore, 1) := by decide +kernel
theorem dMo_insert_179 : decode mMo_insert.2.1 179 = .ok (.aload_n 0, 1) := by decide +kernel
theorem dMo_insert_180 : decode mMo_insert.2.1 180 = .ok (.getfield 13, 3) := by decide +kernel
theorem dMo_insert_183 : decode mMo_insert.2.1 183 = .ok (.iload_n 1, 1) := by decide +kernel
theorem dMo_insert_184 : decode mMo_insert.2.1 184 = .ok (.dup2, 1) := by decide +kernel
theorem dMo_insert_185 : decode mMo_insert.2.1 185 = .ok (.iaload, 1) := by decide +kernel
theorem dMo_insert_186 : decode mMo_insert.2.1 186 = .ok (.iconst 1, 1) := by decide +kernel
theorem dMo_insert_187 : decode mMo_insert.2.1 187 = .ok (.iadd, 1) := by decide +kernel
theorem dMo_insert_188 : decode mMo_insert.2.1 188 = .ok (.iastore, 1) := by decide +kernel
theorem dMo_insert_189 : decode mMo_insert.2.1 189 = .ok (.aload_n 0, 1) := by decide +kernel
theorem dMo_insert_190 : decode mMo_insert.2.1 190 = .ok (.getfield 13, 3) := by decide +kernel
theorem dMo_insert_193 : decode mMo_insert.2.1 193 = .ok (.iload_n 1, 1) := by decide +kernel
theorem dMo_insert_194 : decode mMo_insert.2.1 194 = .ok (.iaload, 1) := by decide +kernel
theorem dMo_insert_195 : decode mMo_insert.2.1 195 = .ok (.ireturn, 1) := by decide +kernel
def lMo_insert_13 (a1 : Int32) (a2 : Int32) (a3 : Int32) (a4 : Int32) : List Slot := [.val (.ref 193), .val (.int a1), .val (.int a2), .val (.int a3), .val (.int a4), .unset, .unset]
def lMo_insert_33 (a1 : Int32) (a2 : Int32) (a3 : Int32) (a4 : Int32) : List Slot := [.val (.ref 193), .val (.int a1), .val (.int a2), .val (.int a3), .val (.int a4), .unset, .unset]
def lMo_insert_48 (a1 : Int32) (a2 : Int32) (a3 : Int32) (a4 : Int32) (a5 : Int32) (w6 : Slot) : List Slot := [.val (.ref 193), .val (.int a1), .val (.int a2), .val (.int a3), .val (.int a4), .val (.int a5), w6]
def lMo_insert_80 (a1 : Int32) (a2 : Int32) (a3 : Int32) (a4 : Int32) (a5 : Int32) (w6 : Slot) : List Slot := [.val (.ref 193), .val (.int a1), .val (.int a2), .val (.int a3), .val (.int a4), .val (.int a5), w6]
def lMo_insert_106 (a1 : Int32) (a2 : Int32) (a3 : Int32) (a4 : Int32) (a5 : Int32) (a6 : Int32) : List Slot := [.val (.ref 193), .val (.int a1), .val (.int a2), .val (.int a3), .val (.int a4), .val (.int a5), .val (.int a6)]
def lMo_insert_113 (a1 : Int32) (a2 : Int32) (a3 : Int32) (a4 : Int32) (a5 : Int32) (a6 : Int32) : List Slot := [.val (.ref 193), .val (.int a1), .val (.int a2), .val (.int a3), .val (.int a4), .val (.int a5), .val (.int a6)]
def lMo_insert_117 (a1 : Int32) (a2 : Int32) (a3 : Int32) (a4 : Int32) (a5 : Int32) (a6 : Int32) : List Slot := [.val (.ref 193), .val (.int a1), .val (.int a2), .val (.int a3), .val (.int a4), .val (.int a5), .val (.int a6)]
theorem bMo_insert_0 {a1 : Int32} {a2 : Int32} {a3 : Int32} {a4 : Int32} (hX : X.length = 13) (k1 : (a1 < 0) → QW d mMo_insert 13 (lMo_insert_13 a1 a2 a3 a4) [.ref 193] (hpo X mem sw o e) P) (h2 : (¬ a1 < 0) → (a1 < (mem 193 1)) → inx a1 4) (k3 : (¬ a1 < 0) → (a1 < (mem 193 1)) → (¬ (mem 195 (Int32.toNatClampNeg a1)) = 8) → QW d mMo_insert 33 (lMo_insert_33 a1 a2 a3 a4) [.int 0, .ref 193] (hpo X mem sw o e) P) (k4 : (¬ a1 < 0) → (a1 < (mem 193 1)) → ((mem 195 (Int32.toNatClampNeg a1)) = 8) → QW d mMo_insert 33 (lMo_insert_33 a1 a2 a3 a4) [.int 2, .ref 193] (hpo X mem sw o e) P) (k5 : (¬ a1 < 0) → (¬ a1 < (mem 193 1)) → QW d mMo_insert 13 (lMo_insert_13 a1 a2 a3 a4) [.ref 193] (hpo X mem sw o e) P) : QW d mMo_insert 0 (qen 7 [.ref 193, .int a1, .int a2, .int a3, .int a4]) [] (hpo X mem sw o e) P := by
  show QW d mMo_insert 0 [.val (.ref 193), .val (.int a1), .val (.int a2), .val (.int a3), .val (.int a4), .unset, .unset] [] (hpo X mem sw o e) P
  refine QW.aload_n dMo_insert_0 rfl rfl ?_
  refine QW.iload_n dMo_insert_1 rfl rfl ?_
  refine QW.if_lt (tgt := 13) dMo_insert_2 (by decide) (fun z0 => ?_) (fun z0 => ?_)
  · exact (k1 z0)
  · refine QW.iload_n dMo_insert_5 rfl rfl ?_
    refine QW.aload_n dMo_insert_6 rfl rfl ?_
    refine MW.geti hX dMo_insert_7 fMo_109 rfl rfl ?_
    refine QW.icmp_lt (tgt := 17) dMo_insert_10 (by decide) (fun z1 => ?_) (fun z1 => ?_)
    · refine QW.aload_n dMo_insert_17 rfl rfl ?_
      refine MW.getr (r' := 195) hX dMo_insert_18 fMo_13 rfl rfl (by cases sw <;> rfl) ?_
      refine QW.iload_n dMo_insert_21 rfl rfl ?_
      refine MW.iald hX dMo_insert_22 rfl (h2 z0 z1).1 (rep_get (h2 z0 z1).2) ?_
      refine QW.bipush (v := 8) dMo_insert_23 (by decide) ?_
      refine QW.icmp_ne (tgt := 32) dMo_insert_25 (by decide) (fun z2 => ?_) (fun z2 => ?_)
      · refine QW.iconst (v := 0) dMo_insert_32 (by decide) ?_
        exact (k3 z0 z1 z2)
      · refine QW.iconst (v := 2) dMo_insert_28 (by decide) ?_
        refine QW.goto (tgt := 33) dMo_insert_29 (by decide) ?_
        exact (k4 z0 z1 z2)
    · exact (k5 z0 z1)
theorem bMo_insert_13 {a1 : Int32} {a2 : Int32} {a3 : Int32} {a4 : Int32} (hX : X.length = 13) (k1 : QW d mMo_insert 33 (lMo_insert_33 a1 a2 a3 a4) [.int 1, .ref 193] (hpo X mem sw o e) P) : QW d mMo_insert 13 (lMo_insert_13 a1 a2 a3 a4) [.ref 193] (hpo X mem sw o e) P := by
  show QW d mMo_insert 13 [.val (.ref 193), .val (.int a1), .val (.int a2), .val (.int a3), .val (.int a4), .unset, .unset] [.ref 193] (hpo X mem sw o e) P
  refine QW.iconst (v := 1) dMo_insert_13 (by decide) ?_
  refine QW.goto (tgt := 33) dMo_insert_14 (by decide) ?_
  exact k1
theorem bMo_insert_33 {a1 : Int32} {a2 : Int32} {a3 : Int32} {a4 : Int32} {s1 : Int32} (hX : X.length = 13) (k1 : (((mup mem 193 0 s1) 193 0) ≤ 0) → QW d mMo_insert 48 (lMo_insert_48 a1 a2 a3 a4 0 .unset) [] (hpo X (mup mem 193 0 s1) sw o e) P) (k2 : (¬ ((mup mem 193 0 s1) 193 0) ≤ 0) → P (.inl (some (.int 0)), (hpo X (mup mem 193 0 s1) sw o e))) : QW d mMo_insert 33 (lMo_insert_33 a1 a2 a3 a4) [.int s1, .ref 193] (hpo X mem sw o e) P := by
  show QW d mMo_insert 33 [.val (.ref 193), .val (.int a1), .val (.int a2), .val (.int a3), .val (.int a4), .unset, .unset] [.int s1, .ref 193] (hpo X mem sw o e) P
  refine MW.puti hX dMo_insert_33 fMo_106 rfl rfl rfl ?_
  refine QW.aload_n dMo_insert_36 rfl rfl ?_
  refine MW.geti hX dMo_insert_37 fMo_106 rfl rfl ?_
  refine QW.if_le (tgt := 45) dMo_insert_40 (by decide) (fun z0 => ?_) (fun z0 => ?_)
  · refine QW.iconst (v := 0) dMo_insert_45 (by decide) ?_
    refine QW.istore (ls' := [.val (.ref 193), .val (.int a1), .val (.int a2), .val (.int a3), .val (.int a4), .val (.int 0), .unset]) dMo_insert_46 rfl ?_
    exact (k1 z0)
  · refine QW.iconst (v := 0) dMo_insert_43 (by decide) ?_
    exact QW.iret dMo_insert_44 rfl rfl (k2 z0)
theorem bMo_insert_48 {a1 : Int32} {a2 : Int32} {a3 : Int32} {a4 : Int32} {a5 : Int32} {w6 : Slot} (hX : X.length = 13) (hw6 : qfr w6) (h1 : inx a1 4) (h2 : ((mem 194 (Int32.toNatClampNeg a1)) ≤ a5) → ((mem 193 0) ≤ 0) → inx a1 4) (h3 : ((mem 194 (Int32.toNatClampNeg a1)) ≤ a5) → ((mem 193 0) ≤ 0) → inx ((24 * a1) + (3 * (mem 195 (Int32.toNatClampNeg a1)))) 96) (h4 : ((mem 194 (Int32.toNatClampNeg a1)) ≤ a5) → ((mem 193 0) ≤ 0) → inx (((24 * a1) + (3 * (mem 195 (Int32.toNatClampNeg a1)))) + 1) 96) (h5 : ((mem 194 (Int32.toNatClampNeg a1)) ≤ a5) → ((mem 193 0) ≤ 0) → inx (((24 * a1) + (3 * (mem 195 (Int32.toNatClampNeg a1)))) + 2) 96) (h6 : ((mem 194 (Int32.toNatClampNeg a1)) ≤ a5) → ((mem 193 0) ≤ 0) → inx a1 4) (h7 : ((mem 194 (Int32.toNatClampNeg a1)) ≤ a5) → ((mem 193 0) ≤ 0) → inx a1 4) (h8 : ((mem 194 (Int32.toNatClampNeg a1)) ≤ a5) → ((mem 193 0) ≤ 0) → inx a1 4) (k9 : ((mem 194 (Int32.toNatClampNeg a1)) ≤ a5) → ((mem 193 0) ≤ 0) → P (.inl (some (.int ((mup (mup (mup (mup mem 196 (Int32.toNatClampNeg ((24 * a1) + (3 * (mem 195 (Int32.toNatClampNeg a1))))) a2) 196 (Int32.toNatClampNeg (((24 * a1) + (3 * (mem 195 (Int32.toNatClampNeg a1)))) + 1)) a3) 196 (Int32.toNatClampNeg (((24 * a1) + (3 * (mem 195 (Int32.toNatClampNeg a1)))) + 2)) a4) 195 (Int32.toNatClampNeg a1) (((mup (mup (mup mem 196 (Int32.toNatClampNeg ((24 * a1) + (3 * (mem 195 (Int32.toNatClampNeg a1))))) a2) 196 (Int32.toNatClampNeg (((24 * a1) + (3 * (mem 195 (Int32.toNatClampNeg a1)))) + 1)) a3) 196 (Int32.toNatClampNeg (((24 * a1) + (3 * (mem 195 (Int32.toNatClampNeg a1)))) + 2)) a4) 195 (Int32.toNatClampNeg a1)) + 1)) 195 (Int32.toNatClampNeg a1)))), (hpo X (mup (mup (mup (mup mem 196 (Int32.toNatClampNeg ((24 * a1) + (3 * (mem 195 (Int32.toNatClampNeg a1))))) a2) 196 (Int32.toNatClampNeg (((24 * a1) + (3 * (mem 195 (Int32.toNatClampNeg a1)))) + 1)) a3) 196 (Int32.toNatClampNeg (((24 * a1) + (3 * (mem 195 (Int32.toNatClampNeg a1)))) + 2)) a4) 195 (Int32.toNatClampNeg a1) (((mup (mup (mup mem 196 (Int32.toNatClampNeg ((24 * a1) + (3 * (mem 195 (Int32.toNatClampNeg a1))))) a2) 196 (Int32.toNatClampNeg (((24 * a1) + (3 * (mem 195 (Int32.toNatClampNeg a1)))) + 1)) a3) 196 (Int32.toNatClampNeg (((24 * a1) + (3 * (mem 195 (Int32.toNatClampNeg a1)))) + 2)) a4) 195 (Int32.toNatClampNeg a1)) + 1)) sw o e))) (k10 : ((mem 194 (Int32.toNatClampNeg a1)) ≤ a5) → (¬ (mem 193 0) ≤ 0) → P (.inl (some (.int 0)), (hpo X mem sw o e))) (k11 : (¬ (mem 194 (Int32.toNatClampNeg a1)) ≤ a5) → (¬ a5 = 0) → (¬ a5 = 1) → QW d mMo_insert 80 (lMo_insert_80 a1 a2 a3 a4 a5 w6) [.int a4] (hpo X mem sw o e) P) (k12 : (¬ (mem 194 (Int32.toNatClampNeg a1)) ≤ a5) → (¬ a5 = 0) → (a5 = 1) → QW d mMo_insert 80 (lMo_insert_80 a1 a2 a3 a4 a5 w6) [.int a3] (hpo X mem sw o e) P) (k13 : (¬ (mem 194 (Int32.toNatClampNeg a1)) ≤ a5) → (a5 = 0) → QW d mMo_insert 80 (lMo_insert_80 a1 a2 a3 a4 a5 w6) [.int a2] (hpo X mem sw o e) P) : QW d mMo_insert 48 (lMo_insert_48 a1 a2 a3 a4 a5 w6) [] (hpo X mem sw o e) P := by
  show QW d mMo_insert 48 [.val (.ref 193), .val (.int a1), .val (.int a2), .val (.int a3), .val (.int a4), .val (.int a5), w6] [] (hpo X mem sw o e) P
  refine QW.iload dMo_insert_48 rfl ?_
  refine QW.aload_n dMo_insert_50 rfl rfl ?_
  refine MW.getr (r' := 194) hX dMo_insert_51 fMo_7 rfl rfl (by cases sw <;> rfl) ?_
  refine QW.iload_n dMo_insert_54 rfl rfl ?_
  refine MW.iald hX dMo_insert_55 rfl h1.1 (rep_get h1.2) ?_
  refine QW.icmp_ge (tgt := 126) dMo_insert_56 (by decide) (fun z0 => ?_) (fun z0 => ?_)
  · refine QW.aload_n dMo_insert_126 rfl rfl ?_
    refine MW.geti hX dMo_insert_127 fMo_106 rfl rfl ?_
    refine QW.if_le (tgt := 135) dMo_insert_130 (by decide) (fun z1 => ?_) (fun z1 => ?_)
    · refine QW.bipush (v := 24) dMo_insert_135 (by decide) ?_
      refine QW.iload_n dMo_insert_137 rfl rfl ?_
      refine QW.imul dMo_insert_138 ?_
      refine QW.iconst (v := 3) dMo_insert_139 (by decide) ?_
      refine QW.aload_n dMo_insert_140 rfl rfl ?_
      refine MW.getr (r' := 195) hX dMo_insert_141 fMo_13 rfl rfl (by cases sw <;> rfl) ?_
      refine QW.iload_n dMo_insert_144 rfl rfl ?_
      refine MW.iald hX dMo_insert_145 rfl (h2 z0 z1).1 (rep_get (h2 z0 z1).2) ?_
      refine QW.imul dMo_insert_146 ?_
      refine QW.iadd dMo_insert_147 ?_
      refine QW.istore (ls' := [.val (.ref 193), .val (.int a1), .val (.int a2), .val (.int a3), .val (.int a4), .val (.int ((24 * a1) + (3 * (mem 195 (Int32.toNatClampNeg a1))))), w6]) dMo_insert_148 rfl ?_
      refine QW.aload_n dMo_insert_150 rfl rfl ?_
      refine MW.getr (r' := 196) hX dMo_insert_151 fMo_16 rfl rfl (by cases sw <;> rfl) ?_
      refine QW.iload dMo_insert_154 rfl ?_
      refine QW.iload_n dMo_insert_156 rfl rfl ?_
      refine MW.iast hX dMo_insert_157 rfl (h3 z0 z1).1 (rep_get (h3 z0 z1).2) ?_
      refine QW.aload_n dMo_insert_158 rfl rfl ?_
      refine MW.getr (r' := 196) hX dMo_insert_159 fMo_16 rfl rfl (by cases sw <;> rfl) ?_
      refine QW.iload dMo_insert_162 rfl ?_
      refine QW.iconst (v := 1) dMo_insert_164 (by decide) ?_
      refine QW.iadd dMo_insert_165 ?_
      refine QW.iload_n dMo_insert_166 rfl rfl ?_
      refine MW.iast hX dMo_insert_167 rfl (h4 z0 z1).1 (rep_get (h4 z0 z1).2) ?_
      refine QW.aload_n dMo_insert_168 rfl rfl ?_
      refine MW.getr (r' := 196) hX dMo_insert_169 fMo_16 rfl rfl (by cases sw <;> rfl) ?_
      refine QW.iload dMo_insert_172 rfl ?_
      refine QW.iconst (v := 2) dMo_insert_174 (by decide) ?_
      refine QW.iadd dMo_insert_175 ?_
      refine QW.iload dMo_insert_176 rfl ?_
      refine MW.iast hX dMo_insert_178 rfl (h5 z0 z1).1 (rep_get (h5 z0 z1).2) ?_
      refine QW.aload_n dMo_insert_179 rfl rfl ?_
      refine MW.getr (r' := 195) hX dMo_insert_180 fMo_13 rfl rfl (by cases sw <;> rfl) ?_
      refine QW.iload_n dMo_insert_183 rfl rfl ?_
      refine QW.dup2 dMo_insert_184 rfl rfl ?_
      refine MW.iald hX dMo_insert_185 rfl (h6 z0 z1).1 (rep_get (h6 z0 z1).2) ?_
      refine QW.iconst (v := 1) dMo_insert_186 (by decide) ?_
      refine QW.iadd dMo_insert_187 ?_
      refine MW.iast hX dMo_insert_188 rfl (h7 z0 z1).1 (rep_get (h7 z0 z1).2) ?_
      refine QW.aload_n dMo_insert_189 rfl rfl ?_
      refine MW.getr (r' := 195) hX dMo_insert_190 fMo_13 rfl rfl (by cases sw <;> rfl) ?_
      refine QW.iload_n dMo_insert_193 rfl rfl ?_
      refine MW.iald hX dMo_insert_194 rfl (h8 z0 z1).1 (rep_get (h8 z0 z1).2) ?_
      exact QW.iret dMo_insert_195 rfl rfl (k9 z0 z1)
    · refine QW.iconst (v := 0) dMo_insert_133 (by decide) ?_
      exact QW.iret dMo_insert_134 rfl rfl (k10 z0 z1)
  · refine QW.iload dMo_insert_59 rfl ?_
    refine QW.if_ne (tgt := 68) dMo_insert_61 (by decide) (fun z1 => ?_) (fun z1 => ?_)
    · refine QW.iload dMo_insert_68 rfl ?_
      refine QW.iconst (v := 1) dMo_insert_70 (by decide) ?_
      refine QW.icmp_ne (tgt := 78) dMo_insert_71 (by decide) (fun z2 => ?_) (fun z2 => ?_)
      · refine QW.iload dMo_insert_78 rfl ?_
        exact (k11 z0 z1 z2)
      · refine QW.iload_n dMo_insert_74 rfl rfl ?_
        refine QW.goto (tgt := 80) dMo_insert_75 (by decide) ?_
        exact (k12 z0 z1 z2)
    · refine QW.iload_n dMo_insert_64 rfl rfl ?_
      refine QW.goto (tgt := 80) dMo_insert_65 (by decide) ?_
      exact (k13 z0 z1)
theorem bMo_insert_80 {a1 : Int32} {a2 : Int32} {a3 : Int32} {a4 : Int32} {a5 : Int32} {w6 : Slot} {s0 : Int32} (hX : X.length = 13) (hw6 : qfr w6) (h1 : inx ((3 * a1) + a5) 12) (k2 : ((mem 197 (Int32.toNatClampNeg ((3 * a1) + a5))) = 0) → QW (d + 1) mMo_insert 113 (lMo_insert_113 a1 a2 a3 a4 a5 s0) [.ref 193] (hpo X mem sw o e) P) (k3 : (¬ (mem 197 (Int32.toNatClampNeg ((3 * a1) + a5))) = 0) → QW d mMo_having 0 (qen 6 [.ref 193, .int a1, .int a5, .int s0]) [] (hpo X mem sw o e) (qcl d mMo_insert 103 106 (lMo_insert_106 a1 a2 a3 a4 a5 s0) [.ref 193] P)) : QW (d + 1) mMo_insert 80 (lMo_insert_80 a1 a2 a3 a4 a5 w6) [.int s0] (hpo X mem sw o e) P := by
  show QW (d + 1) mMo_insert 80 [.val (.ref 193), .val (.int a1), .val (.int a2), .val (.int a3), .val (.int a4), .val (.int a5), w6] [.int s0] (hpo X mem sw o e) P
  refine QW.istore (ls' := [.val (.ref 193), .val (.int a1), .val (.int a2), .val (.int a3), .val (.int a4), .val (.int a5), .val (.int s0)]) dMo_insert_80 (by rcases hw6 with z | ⟨_, z⟩ | ⟨_, z⟩ <;> subst z <;> rfl) ?_
  refine QW.aload_n dMo_insert_82 rfl rfl ?_
  refine QW.aload_n dMo_insert_83 rfl rfl ?_
  refine MW.getr (r' := 197) hX dMo_insert_84 fMo_19 rfl rfl (by cases sw <;> rfl) ?_
  refine QW.iconst (v := 3) dMo_insert_87 (by decide) ?_
  refine QW.iload_n dMo_insert_88 rfl rfl ?_
  refine QW.imul dMo_insert_89 ?_
  refine QW.iload dMo_insert_90 rfl ?_
  refine QW.iadd dMo_insert_92 ?_
  refine MW.zald hX dMo_insert_93 rfl h1.1 (rep_get h1.2) ?_
  refine QW.if_eq (tgt := 113) dMo_insert_94 (by decide) (fun z0 => ?_) (fun z0 => ?_)
  · exact (k2 z0)
  · refine QW.aload_n dMo_insert_97 rfl rfl ?_
    refine QW.iload_n dMo_insert_98 rfl rfl ?_
    refine QW.iload dMo_insert_99 rfl ?_
    refine QW.iload dMo_insert_101 rfl ?_
    exact MW.calV (as := [.int a1, .int a5, .int s0]) (rest := [.ref 193]) hX dMo_insert_103 eMo_having lMo_116 iMo_having vMo_having rfl rfl rfl rfl rfl rfl (Nat.le_of_ble_eq_true rfl) rfl (k3 z0)
theorem bMo_insert_106 {a1 : Int32} {a2 : Int32} {a3 : Int32} {a4 : Int32} {a5 : Int32} {a6 : Int32} {s1 : Int32} (hX : X.length = 13) (k1 : (s1 ≤ 0) → QW d mMo_insert 113 (lMo_insert_113 a1 a2 a3 a4 a5 a6) [.ref 193] (hpo X mem sw o e) P) (k2 : (¬ s1 ≤ 0) → QW d mMo_insert 117 (lMo_insert_117 a1 a2 a3 a4 a5 a6) [.int 2, .ref 193] (hpo X mem sw o e) P) : QW d mMo_insert 106 (lMo_insert_106 a1 a2 a3 a4 a5 a6) [.int s1, .ref 193] (hpo X mem sw o e) P := by
  show QW d mMo_insert 106 [.val (.ref 193), .val (.int a1), .val (.int a2), .val (.int a3), .val (.int a4), .val (.int a5), .val (.int a6)] [.int s1, .ref 193] (hpo X mem sw o e) P
  refine QW.if_le (tgt := 113) dMo_insert_106 (by decide) (fun z0 => ?_) (fun z0 => ?_)
  · exact (k1 z0)
  · refine QW.iconst (v := 2) dMo_insert_109 (by decide) ?_
    refine QW.goto (tgt := 117) dMo_insert_110 (by decide) ?_
    exact (k2 z0)
theorem bMo_insert_113 {a1 : Int32} {a2 : Int32} {a3 : Int32} {a4 : Int32} {a5 : Int32} {a6 : Int32} (hX : X.length = 13) (k1 : QW d mMo_insert 117 (lMo_insert_117 a1 a2 a3 a4 a5 a6) [.int (mem 193 0), .ref 193] (hpo X mem sw o e) P) : QW d mMo_insert 113 (lMo_insert_113 a1 a2 a3 a4 a5 a6) [.ref 193] (hpo X mem sw o e) P := by
  show QW d mMo_insert 113 [.val (.ref 193), .val (.int a1), .val (.int a2), .val (.int a3), .val (.int a4), .val (.int a5), .val (.int a6)] [.ref 193] (hpo X mem sw o e) P
  refine QW.aload_n dMo_insert_113 rfl rfl ?_
  refine MW.geti hX dMo_insert_114 fMo_106 rfl rfl ?_
  exact k1
theorem bMo_insert_117 {a1 : Int32} {a2 : Int32} {a3 : Int32} {a4 : Int32} {a5 : Int32} {a6 : Int32} {s1 : Int32} (hX : X.length = 13) (k1 : QW d mMo_insert 48 (lMo_insert_48 a1 a2 a3 a4 (a5 + 1) (.val (.int a6))) [] (hpo X (mup mem 193 0 s1) sw o e) P) : QW d mMo_insert 117 (lMo_insert_117 a1 a2 a3 a4 a5 a6) [.int s1, .ref 193] (hpo X mem sw o e) P := by
  show QW d mMo_insert 117 [.val (.ref 193), .val (.int a1), .val (.int a2), .val (.int a3), .val (.int a4), .val (.int a5), .val (.int a6)] [.int s1, .ref 193] (hpo X mem sw o e) P
  refine MW.puti hX dMo_insert_117 fMo_106 rfl rfl rfl ?_
  refine MW.iinc (c := 1) (ls' := [.val (.ref 193), .val (.int a1), .val (.int a2), .val (.int a3), .val (.int a4), .val (.int (a5 + 1)), .val (.int a6)]) dMo_insert_120 (by decide) rfl rfl ?_
  refine QW.goto (tgt := 48) dMo_insert_123 (by decide) ?_
  exact k1
theorem dMo_delete_0 : decode mMo_delete.2.1 0 = .ok (.aload_n 0, 1) := by decide +kernel
theorem dMo_delete_1 : decode mMo_delete.2.1 1 = .ok (.aload_n 0, 1) := by decide +kernel
theorem dMo_delete_2 : decode mMo_delete.2.1 2 = .ok (.iload_n 1, 1) := by decide +kernel
theorem dMo_delete_3 : decode mMo_delete.2.1 3 = .ok (.iload_n 2, 1) := by decide +kernel
theorem dMo_delete_4 : decode mMo_delete.2.1 4 = .ok (.invokevirtual 112, 3) := by decide +kernel
theorem dMo_delete_7 : decode mMo_delete.2.1 7 = .ok (.ifCond .eq 7, 3) := by decide +kernel
theorem dMo_delete_10 : decode mMo_delete.2.1 10 = .ok (.iconst 0, 1) := by decide +kernel
theorem dMo_delete_11 : decode mMo_delete.2.1 11 = .ok (.goto 4, 3) := by decide +kernel
theorem dMo_delete_14 : decode mMo_delete.2.1 14 = .ok (.iconst 1, 1) := by decide +kernel
theorem dMo_delete_15 : decode mMo_delete.2.1 15 = .ok (.putfield 106, 3) := by decide +kernel
theorem dMo_delete_18 : decode mMo_delete.2.1 18 = .ok (.aload_n 0, 1) := by decide +kernel
theorem dMo_delete_19 : decode mMo_delete.2.1 19 = .ok (.getfield 106, 3) := by decide +kernel
theorem dMo_delete_22 : decode mMo_delete.2.1 22 = .ok (.ifCond .le 5, 3) := by decide +kernel
theorem dMo_delete_25 : decode mMo_delete.2.1 25 = .ok (.iconst 0, 1) := by decide +kernel
theorem dMo_delete_26 : decode mMo_delete.2.1 26 = .ok (.ireturn, 1) := by decide +kernel
theorem dMo_delete_27 : decode mMo_delete.2.1 27 = .ok (.iconst 0, 1) := by decide +kernel
theorem dMo_delete_28 : decode mMo_delete.2.1 28 = .ok (.istore 4, 2) := by decide +kernel
theorem dMo_delete_30 : decode mMo_delete.2.1 30 = .ok (.iconst 0, 1) := by decide +kernel
theorem dMo_delete_31 : decode mMo_delete.2.1 31 = .ok (.istore 5, 2) := by decide +kernel
theorem dMo_delete_33 : decode mMo_delete.2.1 33 = .ok (.iload 5, 2) := by decide +kernel
theorem dMo_delete_35 : decode mMo_delete.2.1 35 = .ok (.aload_n 0, 1) := by decide +kernel
theorem dMo_delete_36 : decode mMo_delete.2.1 36 = .ok (.getfield 13, 3) := by decide +kernel
theorem dMo_delete_39 : decode mMo_delete.2.1 39 = .ok (.iload_n 1, 1) := by decide +kernel
theorem dMo_delete_40 : decode mMo_delete.2.1 40 = .ok (.iaload, 1) := by decide +kernel
theorem dMo_delete_41 : decode mMo_delete.2.1 41 = .ok (.if_icmp .ge 105, 3) := by decide +kernel
theorem dMo_delete_44 : decode mMo_delete.2.1 44 = .ok (.aload_n 0, 1) := by decide +kernel
theorem dMo_delete_45 : decode mMo_delete.2.1 45 = .ok (.getfield 16, 3) := by decide +kernel
theorem dMo_delete_48 : decode mMo_delete.2.1 48 = .ok (.bipush 24, 2) := by decide +kernel
theorem dMo_delete_50 : decode mMo_delete.2.1 50 = .ok (.iload_n 1, 1) := by decide +kernel
theorem dMo_delete_51 : decode mMo_delete.2.1 51 = .ok (.imul, 1) := by decide +kernel
theorem dMo_delete_52 : decode mMo_delete.2.1 52 = .ok (.iconst 3, 1) := by decide +kernel
theorem dMo_delete_53 : decode mMo_delete.2.1 53 = .ok (.iload 5, 2) := by decide +kernel
theorem dMo_delete_55 : decode mMo_delete.2.1 55 = .ok (.imul, 1) := by decide +kernel
theorem dMo_delete_56 : decode mMo_delete.2.1 56 = .ok (.iadd, 1) := by decide +kernel
theorem dMo_delete_57 : decode mMo_delete.2.1 57 = .ok (.iload_n 2, 1) := by decide +kernel
theorem dMo_delete_58 : decode mMo_delete.2.1 58 = .ok (.iadd, 1) := by decide +kernel
theorem dMo_delete_59 : decode mMo_delete.2.1 59 = .ok (.iaload, 1) := by decide +kernel
theorem dMo_delete_60 : decode mMo_delete.2.1 60 = .ok (.iload_n 3, 1) := by decide +kernel
theorem dMo_delete_61 : decode mMo_delete.2.1 61 = .ok (.if_icmp .ne 7, 3) := by decide +kernel
theorem dMo_delete_64 : decode mMo_delete.2.1 64 = .ok (.iconst 1, 1) := by decide +kernel
theorem dMo_delete_65 : decode mMo_delete.2.1 65 = .ok (.goto 4, 3) := by decide +kernel
theorem dMo_delete_68 : decode mMo_delete.2.1 68 = .ok (.iconst 0, 1) := by decide +kernel
theorem dMo_delete_69 : decode mMo_delete.2.1 69 = .ok (.istore 6, 2) := by decide +kernel
theorem dMo_delete_71 : decode mMo_delete.2.1 71 = .ok (.iconst 0, 1) := by decide +kernel
theorem dMo_delete_72 : decode mMo_delete.2.1 72 = .ok (.istore 7, 2) := by decide +kernel
theorem dMo_delete_74 : decode mMo_delete.2.1 74 = .ok (.iload 7, 2) := by decide +kernel
theorem dMo_delete_76 : decode mMo_delete.2.1 76 = .ok (.iconst 3, 1) := by decide +kernel
theorem dMo_delete_77 : decode mMo_delete.2.1 77 = .ok (.if_icmp .ge 48, 3) := by decide +kernel
theorem dMo_delete_80 : decode mMo_delete.2.1 80 = .ok (.iload 6, 2) := by decide +kernel
theorem dMo_delete_82 : decode mMo_delete.2.1 82 = .ok (.ifCond .ne 43, 3) := by decide +kernel
theorem dMo_delete_85 : decode mMo_delete.2.1 85 = .ok (.aload_n 0, 1) := by decide +kernel
theorem dMo_delete_86 : decode mMo_delete.2.1 86 = .ok (.getfield 16, 3) := by decide +kernel
theorem dMo_delete_89 : decode mMo_delete.2.1 89 = .ok (.bipush 24, 2) := by decide +kernel
theorem dMo_delete_91 : decode mMo_delete.2.1 91 = .ok (.iload_n 1, 1) := by decide +kernel
theorem dMo_delete_92 : decode mMo_delete.2.1 92 = .ok (.imul, 1) := by decide +kernel
theorem dMo_delete_93 : decode mMo_delete.2.1 93 = .ok (.iconst 3, 1) := by decide +kernel
theorem dMo_delete_94 : decode mMo_delete.2.1 94 = .ok (.iload 4, 2) := by decide +kernel
theorem dMo_delete_96 : decode mMo_delete.2.1 96 = .ok (.imul, 1) := by decide +kernel
theorem dMo_delete_97 : decode mMo_delete.2.1 97 = .ok (.iadd, 1) := by decide +kernel
theorem dMo_delete_98 : decode mMo_delete.2.1 98 = .ok (.iload 7, 2) := by decide +kernel
theorem dMo_delete_100 : decode mMo_delete.2.1 100 = .ok (.iadd, 1) := by decide +kernel
theorem dMo_delete_101 : decode mMo_delete.2.1 101 = .ok (.aload_n 0, 1) := by decide +kernel
theorem dMo_delete_102 : decode mMo_delete.2.1 102 = .ok (.getfield 16, 3) := by decide +kernel
theorem dMo_delete_105 : decode mMo_delete.2.1 105 = .ok (.bipush 24, 2) := by decide +kernel
theorem dMo_delete_107 : decode mMo_delete.2.1 107 = .ok (.iload_n 1, 1) := by decide +kernel
theorem dMo_delete_108 : decode mMo_delete.2.1 108 = .ok (.imul, 1) := by decide +kernel
theorem dMo_delete_109 : decode mMo_delete.2.1 109 = .ok (.iconst 3, 1) := by decide +kernel
theorem dMo_delete_110 : decode mMo_delete.2.1 110 = .ok (.iload 5, 2) := by decide +kernel
theorem dMo_delete_112 : decode mMo_delete.2.1 112 = .ok (.imul, 1) := by decide +kernel
theorem dMo_delete_113 : decode mMo_delete.2.1 113 = .ok (.iadd, 1) := by decide +kernel
theorem dMo_delete_114 : decode mMo_delete.2.1 114 = .ok (.iload 7, 2) := by decide +kernel
theorem dMo_delete_116 : decode mMo_delete.2.1 116 = .ok (.iadd, 1) := by decide +kernel
theorem dMo_delete_117 : decode mMo_delete.2.1 117 = .ok (.iaload, 1) := by decide +kernel
theorem dMo_delete_118 : decode mMo_delete.2.1 118 = .ok (.iastore, 1) := by decide +kernel
theorem dMo_delete_119 : decode mMo_delete.2.1 119 = .ok (.iinc 7 1, 3) := by decide +kernel
theorem dMo_delete_122 : decode mMo_delete.2.1 122 = .ok (.goto (-48), 3) := by decide +kernel
theorem dMo_delete_125 : decode mMo_delete.2.1 125 = .ok (.iload 4, 2) := by decide +kernel
theorem dMo_delete_127 : decode mMo_delete.2.1 127 = .ok (.iload 6, 2) := by decide +kernel
theorem dMo_delete_129 : decode mMo_delete.2.1 129 = .ok (.ifCond .eq 7, 3) := by decide +kernel
theorem dMo_delete_132 : decode mMo_delete.2.1 132 = .ok (.iconst 0, 1) := by decide +kernel
theorem dMo_delete_133 : decode mMo_delete.2.1 133 = .ok (.goto 4, 3) := by decide +kernel
theorem dMo_delete_136 : decode mMo_delete.2.1 136 = .ok (.iconst 1, 1) := by decide +kernel
theorem dMo_delete_137 : decode mMo_delete.2.1 137 = .ok (.iadd, 1) := by decide +kernel
theorem dMo_delete_138 : decode mMo_delete.2.1 138 = .ok (.istore 4, 2) := by decide +kernel
theorem dMo_delete_140 : decode mMo_delete.2.1 140 = .ok (.iinc 5 1, 3) := by decide +kernel
theorem dMo_delete_143 : decode mMo_delete.2.1 143 = .ok (.goto (-110), 3) := by decide +kernel
theorem dMo_delete_146 : decode mMo_delete.2.1 146 = .ok (.aload_n 0, 1) := by decide +kernel
theorem dMo_delete_147 : decode mMo_delete.2.1 147 = .ok (.getfield 13, 3) := by decide +kernel
theorem dMo_delete_150 : decode mMo_delete.2.1 150 = .ok (.iload_n 1, 1) := by decide +kernel
theorem dMo_delete_151 : decode mMo_delete.2.1 151 = .ok (.iaload, 1) := by decide +kernel
theorem dMo_delete_152 : decode mMo_delete.2.1 152 = .ok (.iload 4, 2) := by decide +kernel
theorem dMo_delete_154 : decode mMo_delete.2.1 154 = .ok (.isub, 1) := by decide +kernel
theorem dMo_delete_155 : decode mMo_delete.2.1 155 = .ok (.istore 5, 2) := by decide +kernel
theorem dMo_delete_157 : decode mMo_delete.2.1 157 = .ok (.aload_n 0, 1) := by decide +kernel
theorem dMo_delete_158 : decode mMo_delete.2.1 158 = .ok (.getfield 13, 3) := by decide +kernel
theorem dMo_delete_161 : decode mMo_delete.2.1 161 = .ok (.iload_n 1, 1) := by decide +kernel
theorem dMo_delete_162 : decode mMo_delete.2.1 162 = .ok (.iload 4, 2) := by decide +kernel
theorem dMo_delete_164 : decode mMo_delete.2.1 164 = .ok (.iastore, 1) := by decide +kernel
theorem dMo_delete_165 : decode mMo_delete.2.1 165 = .ok (.iload 5, 2) := by decide +kernel
theorem dMo_delete_167 : decode mMo_delete.2.1 167 = .ok (.ireturn, 1) := by decide +kernel
def lMo_delete_7 (a1 : Int32) (a2 : Int32) (a3 : Int32) : List Slot := [.val (.ref 193), .val (.int a1), .val (.int a2), .val (.int a3), .unset, .unset, .unset, .unset]
def lMo_delete_15 (a1 : Int32) (a2 : Int32) (a3 : Int32) : List Slot := [.val (.ref 193), .val (.int a1), .val (.int a2), .val (.int a3), .unset, .unset, .unset, .unset]
def lMo_delete_33 (a1 : Int32) (a2 : Int32) (a3 : Int32) (a4 : Int32) (a5 : Int32) (w6 : Slot) (w7 : Slot) : List Slot := [.val (.ref 193), .val (.int a1), .val (.int a2), .val (.int a3), .val (.int a4), .val (.int a5), w6, w7]
def lMo_delete_69 (a1 : Int32) (a2 : Int32) (a3 : Int32) (a4 : Int32) (a5 : Int32) (w6 : Slot) (w7 : Slot) : List Slot := [.val (.ref 193), .val (.int a1), .val (.int a2), .val (.int a3), .val (.int a4), .val (.int a5), w6, w7]
def lMo_delete_74 (a1 : Int32) (a2 : Int32) (a3 : Int32) (a4 : Int32) (a5 : Int32) (a6 : Int32) (a7 : Int32) : List Slot := [.val (.ref 193), .val (.int a1), .val (.int a2), .val (.int a3), .val (.int a4), .val (.int a5), .val (.int a6), .val (.int a7)]
def lMo_delete_125 (a1 : Int32) (a2 : Int32) (a3 : Int32) (a4 : Int32) (a5 : Int32) (a6 : Int32) (a7 : Int32) : List Slot := [.val (.ref 193), .val (.int a1), .val (.int a2), .val (.int a3), .val (.int a4), .val (.int a5), .val (.int a6), .val (.int a7)]
def lMo_delete_137 (a1 : Int32) (a2 : Int32) (a3 : Int32) (a4 : Int32) (a5 : Int32) (a6 : Int32) (a7 : Int32) : List Slot := [.val (.ref 193), .val (.int a1), .val (.int a2), .val (.int a3), .val (.int a4), .val (.int a5), .val (.int a6), .val (.int a7)]
theorem bMo_delete_0 {a1 : Int32} {a2 : Int32} {a3 : Int32} (hX : X.length = 13) (k1 : QW d mMo_isColumn 0 (qen 3 [.ref 193, .int a1, .int a2]) [] (hpo X mem sw o e) (qcl d mMo_delete 4 7 (lMo_delete_7 a1 a2 a3) [.ref 193] P)) : QW (d + 1) mMo_delete 0 (qen 8 [.ref 193, .int a1, .int a2, .int a3]) [] (hpo X mem sw o e) P := by
  show QW (d + 1) mMo_delete 0 [.val (.ref 193), .val (.int a1), .val (.int a2), .val (.int a3), .unset, .unset, .unset, .unset] [] (hpo X mem sw o e) P
  refine QW.aload_n dMo_delete_0 rfl rfl ?_
  refine QW.aload_n dMo_delete_1 rfl rfl ?_
  refine QW.iload_n dMo_delete_2 rfl rfl ?_
  refine QW.iload_n dMo_delete_3 rfl rfl ?_
  exact MW.calV (as := [.int a1, .int a2]) (rest := [.ref 193]) hX dMo_delete_4 eMo_isColumn lMo_112 iMo_isColumn vMo_isColumn rfl rfl rfl rfl rfl rfl (Nat.le_of_ble_eq_true rfl) rfl k1
theorem bMo_delete_7 {a1 : Int32} {a2 : Int32} {a3 : Int32} {s1 : Int32} (hX : X.length = 13) (k1 : (s1 = 0) → QW d mMo_delete 15 (lMo_delete_15 a1 a2 a3) [.int 1, .ref 193] (hpo X mem sw o e) P) (k2 : (¬ s1 = 0) → QW d mMo_delete 15 (lMo_delete_15 a1 a2 a3) [.int 0, .ref 193] (hpo X mem sw o e) P) : QW d mMo_delete 7 (lMo_delete_7 a1 a2 a3) [.int s1, .ref 193] (hpo X mem sw o e) P := by
  show QW d mMo_delete 7 [.val (.ref 193), .val (.int a1), .val (.int a2), .val (.int a3), .unset, .unset, .unset, .unset] [.int s1, .ref 193] (hpo X mem sw o e) P
  refine QW.if_eq (tgt := 14) dMo_delete_7 (by decide) (fun z0 => ?_) (fun z0 => ?_)
  · refine QW.iconst (v := 1) dMo_delete_14 (by decide) ?_
    exact (k1 z0)
  · refine QW.iconst (v := 0) dMo_delete_10 (by decide) ?_
    refine QW.goto (tgt := 15) dMo_delete_11 (by decide) ?_
    exact (k2 z0)
theorem bMo_delete_15 {a1 : Int32} {a2 : Int32} {a3 : Int32} {s1 : Int32} (hX : X.length = 13) (k1 : (((mup mem 193 0 s1) 193 0) ≤ 0) → QW d mMo_delete 33 (lMo_delete_33 a1 a2 a3 0 0 .unset .unset) [] (hpo X (mup mem 193 0 s1) sw o e) P) (k2 : (¬ ((mup mem 193 0 s1) 193 0) ≤ 0) → P (.inl (some (.int 0)), (hpo X (mup mem 193 0 s1) sw o e))) : QW d mMo_delete 15 (lMo_delete_15 a1 a2 a3) [.int s1, .ref 193] (hpo X mem sw o e) P := by
  show QW d mMo_delete 15 [.val (.ref 193), .val (.int a1), .val (.int a2), .val (.int a3), .unset, .unset, .unset, .unset] [.int s1, .ref 193] (hpo X mem sw o e) P
  refine MW.puti hX dMo_delete_15 fMo_106 rfl rfl rfl ?_
  refine QW.aload_n dMo_delete_18 rfl rfl ?_
  refine MW.geti hX dMo_delete_19 fMo_106 rfl rfl ?_
  refine QW.if_le (tgt := 27) dMo_delete_22 (by decide) (fun z0 => ?_) (fun z0 => ?_)
  · refine QW.iconst (v := 0) dMo_delete_27 (by decide) ?_
    refine QW.istore (ls' := [.val (.ref 193), .val (.int a1), .val (.int a2), .val (.int a3), .val (.int 0), .unset, .unset, .unset]) dMo_delete_28 rfl ?_
    refine QW.iconst (v := 0) dMo_delete_30 (by decide) ?_
    refine QW.istore (ls' := [.val (.ref 193), .val (.int a1), .val (.int a2), .val (.int a3), .val (.int 0), .val (.int 0), .unset, .unset]) dMo_delete_31 rfl ?_
    exact (k1 z0)
  · refine QW.iconst (v := 0) dMo_delete_25 (by decide) ?_
    exact QW.iret dMo_delete_26 rfl rfl (k2 z0)
theorem bMo_delete_33 {a1 : Int32} {a2 : Int32} {a3 : Int32} {a4 : Int32} {a5 : Int32} {w6 : Slot} {w7 : Slot} (hX : X.length = 13) (hw6 : qfr w6) (hw7 : qfr w7) (h1 : inx a1 4) (h2 : ((mem 195 (Int32.toNatClampNeg a1)) ≤ a5) → inx a1 4) (h3 : ((mem 195 (Int32.toNatClampNeg a1)) ≤ a5) → inx a1 4) (k4 : ((mem 195 (Int32.toNatClampNeg a1)) ≤ a5) → P (.inl (some (.int ((mem 195 (Int32.toNatClampNeg a1)) - a4))), (hpo X (mup mem 195 (Int32.toNatClampNeg a1) a4) sw o e))) (h5 : (¬ (mem 195 (Int32.toNatClampNeg a1)) ≤ a5) → inx (((24 * a1) + (3 * a5)) + a2) 96) (k6 : (¬ (mem 195 (Int32.toNatClampNeg a1)) ≤ a5) → (¬ (mem 196 (Int32.toNatClampNeg (((24 * a1) + (3 * a5)) + a2))) = a3) → QW d mMo_delete 69 (lMo_delete_69 a1 a2 a3 a4 a5 w6 w7) [.int 0] (hpo X mem sw o e) P) (k7 : (¬ (mem 195 (Int32.toNatClampNeg a1)) ≤ a5) → ((mem 196 (Int32.toNatClampNeg (((24 * a1) + (3 * a5)) + a2))) = a3) → QW d mMo_delete 69 (lMo_delete_69 a1 a2 a3 a4 a5 w6 w7) [.int 1] (hpo X mem sw o e) P) : QW d mMo_delete 33 (lMo_delete_33 a1 a2 a3 a4 a5 w6 w7) [] (hpo X mem sw o e) P := by
  show QW d mMo_delete 33 [.val (.ref 193), .val (.int a1), .val (.int a2), .val (.int a3), .val (.int a4), .val (.int a5), w6, w7] [] (hpo X mem sw o e) P
  refine QW.iload dMo_delete_33 rfl ?_
  refine QW.aload_n dMo_delete_35 rfl rfl ?_
  refine MW.getr (r' := 195) hX dMo_delete_36 fMo_13 rfl rfl (by cases sw <;> rfl) ?_
  refine QW.iload_n dMo_delete_39 rfl rfl ?_
  refine MW.iald hX dMo_delete_40 rfl h1.1 (rep_get h1.2) ?_
  refine QW.icmp_ge (tgt := 146) dMo_delete_41 (by decide) (fun z0 => ?_) (fun z0 => ?_)
  · refine QW.aload_n dMo_delete_146 rfl rfl ?_
    refine MW.getr (r' := 195) hX dMo_delete_147 fMo_13 rfl rfl (by cases sw <;> rfl) ?_
    refine QW.iload_n dMo_delete_150 rfl rfl ?_
    refine MW.iald hX dMo_delete_151 rfl (h2 z0).1 (rep_get (h2 z0).2) ?_
    refine QW.iload dMo_delete_152 rfl ?_
    refine QW.isub dMo_delete_154 ?_
    refine QW.istore (ls' := [.val (.ref 193), .val (.int a1), .val (.int a2), .val (.int a3), .val (.int a4), .val (.int ((mem 195 (Int32.toNatClampNeg a1)) - a4)), w6, w7]) dMo_delete_155 rfl ?_
    refine QW.aload_n dMo_delete_157 rfl rfl ?_
    refine MW.getr (r' := 195) hX dMo_delete_158 fMo_13 rfl rfl (by cases sw <;> rfl) ?_
    refine QW.iload_n dMo_delete_161 rfl rfl ?_
    refine QW.iload dMo_delete_162 rfl ?_
    refine MW.iast hX dMo_delete_164 rfl (h3 z0).1 (rep_get (h3 z0).2) ?_
    refine QW.iload dMo_delete_165 rfl ?_
    exact QW.iret dMo_delete_167 rfl rfl (k4 z0)
  · refine QW.aload_n dMo_delete_44 rfl rfl ?_
    refine MW.getr (r' := 196) hX dMo_delete_45 fMo_16 rfl rfl (by cases sw <;> rfl) ?_
    refine QW.bipush (v := 24) dMo_delete_48 (by decide) ?_
    refine QW.iload_n dMo_delete_50 rfl rfl ?_
    refine QW.imul dMo_delete_51 ?_
    refine QW.iconst (v := 3) dMo_delete_52 (by decide) ?_
    refine QW.iload dMo_delete_53 rfl ?_
    refine QW.imul dMo_delete_55 ?_
    refine QW.iadd dMo_delete_56 ?_
    refine QW.iload_n dMo_delete_57 rfl rfl ?_
    refine QW.iadd dMo_delete_58 ?_
    refine MW.iald hX dMo_delete_59 rfl (h5 z0).1 (rep_get (h5 z0).2) ?_
    refine QW.iload_n dMo_delete_60 rfl rfl ?_
    refine QW.icmp_ne (tgt := 68) dMo_delete_61 (by decide) (fun z1 => ?_) (fun z1 => ?_)
    · refine QW.iconst (v := 0) dMo_delete_68 (by decide) ?_
      exact (k6 z0 z1)
    · refine QW.iconst (v := 1) dMo_delete_64 (by decide) ?_
      refine QW.goto (tgt := 69) dMo_delete_65 (by decide) ?_
      exact (k7 z0 z1)
theorem bMo_delete_69 {a1 : Int32} {a2 : Int32} {a3 : Int32} {a4 : Int32} {a5 : Int32} {w6 : Slot} {w7 : Slot} {s0 : Int32} (hX : X.length = 13) (hw6 : qfr w6) (hw7 : qfr w7) (k1 : QW d mMo_delete 74 (lMo_delete_74 a1 a2 a3 a4 a5 s0 0) [] (hpo X mem sw o e) P) : QW d mMo_delete 69 (lMo_delete_69 a1 a2 a3 a4 a5 w6 w7) [.int s0] (hpo X mem sw o e) P := by
  show QW d mMo_delete 69 [.val (.ref 193), .val (.int a1), .val (.int a2), .val (.int a3), .val (.int a4), .val (.int a5), w6, w7] [.int s0] (hpo X mem sw o e) P
  refine QW.istore (ls' := [.val (.ref 193), .val (.int a1), .val (.int a2), .val (.int a3), .val (.int a4), .val (.int a5), .val (.int s0), w7]) dMo_delete_69 (by rcases hw6 with z | ⟨_, z⟩ | ⟨_, z⟩ <;> subst z <;> rfl) ?_
  refine QW.iconst (v := 0) dMo_delete_71 (by decide) ?_
  refine QW.istore (ls' := [.val (.ref 193), .val (.int a1), .val (.int a2), .val (.int a3), .val (.int a4), .val (.int a5), .val (.int s0), .val (.int 0)]) dMo_delete_72 (by rcases hw7 with z | ⟨_, z⟩ | ⟨_, z⟩ <;> subst z <;> rfl) ?_
  exact k1
theorem bMo_delete_74 {a1 : Int32} {a2 : Int32} {a3 : Int32} {a4 : Int32} {a5 : Int32} {a6 : Int32} {a7 : Int32} (hX : X.length = 13) (k1 : (3 ≤ a7) → QW d mMo_delete 125 (lMo_delete_125 a1 a2 a3 a4 a5 a6 a7) [] (hpo X mem sw o e) P) (k2 : (¬ 3 ≤ a7) → (¬ a6 = 0) → QW d mMo_delete 125 (lMo_delete_125 a1 a2 a3 a4 a5 a6 a7) [] (hpo X mem sw o e) P) (h3 : (¬ 3 ≤ a7) → (a6 = 0) → inx (((24 * a1) + (3 * a5)) + a7) 96) (h4 : (¬ 3 ≤ a7) → (a6 = 0) → inx (((24 * a1) + (3 * a4)) + a7) 96) (k5 : (¬ 3 ≤ a7) → (a6 = 0) → QW d mMo_delete 74 (lMo_delete_74 a1 a2 a3 a4 a5 a6 (a7 + 1)) [] (hpo X (mup mem 196 (Int32.toNatClampNeg (((24 * a1) + (3 * a4)) + a7)) (mem 196 (Int32.toNatClampNeg (((24 * a1) + (3 * a5)) + a7)))) sw o e) P) : QW d mMo_delete 74 (lMo_delete_74 a1 a2 a3 a4 a5 a6 a7) [] (hpo X mem sw o e) P := by
  show QW d mMo_delete 74 [.val (.ref 193), .val (.int a1), .val (.int a2), .val (.int a3), .val (.int a4), .val (.int a5), .val (.int a6), .val (.int a7)] [] (hpo X mem sw o e) P
  refine QW.iload dMo_delete_74 rfl ?_
  refine QW.iconst (v := 3) dMo_delete_76 (by decide) ?_
  refine QW.icmp_ge (tgt := 125) dMo_delete_77 (by decide) (fun z0 => ?_) (fun z0 => ?_)
  · exact (k1 z0)
  · refine QW.iload dMo_delete_80 rfl ?_
    refine QW.if_ne (tgt := 125) dMo_delete_82 (by decide) (fun z1 => ?_) (fun z1 => ?_)
    · exact (k2 z0 z1)
    · refine QW.aload_n dMo_delete_85 rfl rfl ?_
      refine MW.getr (r' := 196) hX dMo_delete_86 fMo_16 rfl rfl (by cases sw <;> rfl) ?_
      refine QW.bipush (v := 24) dMo_delete_89 (by decide) ?_
      refine QW.iload_n dMo_delete_91 rfl rfl ?_
      refine QW.imul dMo_delete_92 ?_
      refine QW.iconst (v := 3) dMo_delete_93 (by decide) ?_
      refine QW.iload dMo_delete_94 rfl ?_
      refine QW.imul dMo_delete_96 ?_
      refine QW.iadd dMo_delete_97 ?_
      refine QW.iload dMo_delete_98 rfl ?_
      refine QW.iadd dMo_delete_100 ?_
      refine QW.aload_n dMo_delete_101 rfl rfl ?_
      refine MW.getr (r' := 196) hX dMo_delete_102 fMo_16 rfl rfl (by cases sw <;> rfl) ?_
      refine QW.bipush (v := 24) dMo_delete_105 (by decide) ?_
      refine QW.iload_n dMo_delete_107 rfl rfl ?_
      refine QW.imul dMo_delete_108 ?_
      refine QW.iconst (v := 3) dMo_delete_109 (by decide) ?_
      refine QW.iload dMo_delete_110 rfl ?_
      refine QW.imul dMo_delete_112 ?_
      refine QW.iadd dMo_delete_113 ?_
      refine QW.iload dMo_delete_114 rfl ?_
      refine QW.iadd dMo_delete_116 ?_
      refine MW.iald hX dMo_delete_117 rfl (h3 z0 z1).1 (rep_get (h3 z0 z1).2) ?_
      refine MW.iast hX dMo_delete_118 rfl (h4 z0 z1).1 (rep_get (h4 z0 z1).2) ?_
      refine MW.iinc (c := 1) (ls' := [.val (.ref 193), .val (.int a1), .val (.int a2), .val (.int a3), .val (.int a4), .val (.int a5), .val (.int a6), .val (.int (a7 + 1))]) dMo_delete_119 (by decide) rfl rfl ?_
      refine QW.goto (tgt := 74) dMo_delete_122 (by decide) ?_
      exact (k5 z0 z1)
theorem bMo_delete_125 {a1 : Int32} {a2 : Int32} {a3 : Int32} {a4 : Int32} {a5 : Int32} {a6 : Int32} {a7 : Int32} (hX : X.length = 13) (k1 : (a6 = 0) → QW d mMo_delete 137 (lMo_delete_137 a1 a2 a3 a4 a5 a6 a7) [.int 1, .int a4] (hpo X mem sw o e) P) (k2 : (¬ a6 = 0) → QW d mMo_delete 137 (lMo_delete_137 a1 a2 a3 a4 a5 a6 a7) [.int 0, .int a4] (hpo X mem sw o e) P) : QW d mMo_delete 125 (lMo_delete_125 a1 a2 a3 a4 a5 a6 a7) [] (hpo X mem sw o e) P := by
  show QW d mMo_delete 125 [.val (.ref 193), .val (.int a1), .val (.int a2), .val (.int a3), .val (.int a4), .val (.int a5), .val (.int a6), .val (.int a7)] [] (hpo X mem sw o e) P
  refine QW.iload dMo_delete_125 rfl ?_
  refine QW.iload dMo_delete_127 rfl ?_
  refine QW.if_eq (tgt := 136) dMo_delete_129 (by decide) (fun z0 => ?_) (fun z0 => ?_)
  · refine QW.iconst (v := 1) dMo_delete_136 (by decide) ?_
    exact (k1 z0)
  · refine QW.iconst (v := 0) dMo_delete_132 (by decide) ?_
    refine QW.goto (tgt := 137) dMo_delete_133 (by decide) ?_
    exact (k2 z0)
theorem bMo_delete_137 {a1 : Int32} {a2 : Int32} {a3 : Int32} {a4 : Int32} {a5 : Int32} {a6 : Int32} {a7 : Int32} {s1 : Int32} {s0 : Int32} (hX : X.length = 13) (k1 : QW d mMo_delete 33 (lMo_delete_33 a1 a2 a3 (s0 + s1) (a5 + 1) (.val (.int a6)) (.val (.int a7))) [] (hpo X mem sw o e) P) : QW d mMo_delete 137 (lMo_delete_137 a1 a2 a3 a4 a5 a6 a7) [.int s1, .int s0] (hpo X mem sw o e) P := by
  show QW d mMo_delete 137 [.val (.ref 193), .val (.int a1), .val (.int a2), .val (.int a3), .val (.int a4), .val (.int a5), .val (.int a6), .val (.int a7)] [.int s1, .int s0] (hpo X mem sw o e) P
  refine QW.iadd dMo_delete_137 ?_
  refine QW.istore (ls' := [.val (.ref 193), .val (.int a1), .val (.int a2), .val (.int a3), .val (.int (s0 + s1)), .val (.int a5), .val (.int a6), .val (.int a7)]) dMo_delete_138 rfl ?_
  refine MW.iinc (c := 1) (ls' := [.val (.ref 193), .val (.int a1), .val (.int a2), .val (.int a3), .val (.int (s0 + s1)), .val (.int (a5 + 1)), .val (.int a6), .val (.int a7)]) dMo_delete_140 (by decide) rfl rfl ?_
  refine QW.goto (tgt := 33) dMo_delete_143 (by decide) ?_
  exact k1
end BLK

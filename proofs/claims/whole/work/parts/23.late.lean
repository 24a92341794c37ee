section BLK
variable {d : Nat} {P : qE → Prop} {X : qH} {mem : Nat → Nat → Int32} {sw : Bool} {o : Int64} {e : List Nat}
theorem dTab_takeOut_0 : decode mTab_takeOut.2.1 0 = .ok (.iconst 0, 1) := by decide +kernel
theorem dTab_takeOut_1 : decode mTab_takeOut.2.1 1 = .ok (.istore_n 3, 1) := by decide +kernel
theorem dTab_takeOut_2 : decode mTab_takeOut.2.1 2 = .ok (.iconst 0, 1) := by decide +kernel
theorem dTab_takeOut_3 : decode mTab_takeOut.2.1 3 = .ok (.istore 4, 2) := by decide +kernel
theorem dTab_takeOut_5 : decode mTab_takeOut.2.1 5 = .ok (.iload 4, 2) := by decide +kernel
theorem dTab_takeOut_7 : decode mTab_takeOut.2.1 7 = .ok (.aload_n 0, 1) := by decide +kernel
theorem dTab_takeOut_8 : decode mTab_takeOut.2.1 8 = .ok (.getfield 23, 3) := by decide +kernel
theorem dTab_takeOut_11 : decode mTab_takeOut.2.1 11 = .ok (.if_icmp .ge 42, 3) := by decide +kernel
theorem dTab_takeOut_14 : decode mTab_takeOut.2.1 14 = .ok (.aload_n 0, 1) := by decide +kernel
theorem dTab_takeOut_15 : decode mTab_takeOut.2.1 15 = .ok (.iload 4, 2) := by decide +kernel
theorem dTab_takeOut_17 : decode mTab_takeOut.2.1 17 = .ok (.iload_n 1, 1) := by decide +kernel
theorem dTab_takeOut_18 : decode mTab_takeOut.2.1 18 = .ok (.invokevirtual 26, 3) := by decide +kernel
theorem dTab_takeOut_21 : decode mTab_takeOut.2.1 21 = .ok (.iload_n 2, 1) := by decide +kernel
theorem dTab_takeOut_22 : decode mTab_takeOut.2.1 22 = .ok (.if_icmp .eq 25, 3) := by decide +kernel
theorem dTab_takeOut_25 : decode mTab_takeOut.2.1 25 = .ok (.aload_n 0, 1) := by decide +kernel
theorem dTab_takeOut_26 : decode mTab_takeOut.2.1 26 = .ok (.getfield 15, 3) := by decide +kernel
theorem dTab_takeOut_29 : decode mTab_takeOut.2.1 29 = .ok (.iload 4, 2) := by decide +kernel
theorem dTab_takeOut_31 : decode mTab_takeOut.2.1 31 = .ok (.iconst 3, 1) := by decide +kernel
theorem dTab_takeOut_32 : decode mTab_takeOut.2.1 32 = .ok (.imul, 1) := by decide +kernel
theorem dTab_takeOut_33 : decode mTab_takeOut.2.1 33 = .ok (.aload_n 0, 1) := by decide +kernel
theorem dTab_takeOut_34 : decode mTab_takeOut.2.1 34 = .ok (.getfield 15, 3) := by decide +kernel
theorem dTab_takeOut_37 : decode mTab_takeOut.2.1 37 = .ok (.iload_n 3, 1) := by decide +kernel
theorem dTab_takeOut_38 : decode mTab_takeOut.2.1 38 = .ok (.iconst 3, 1) := by decide +kernel
theorem dTab_takeOut_39 : decode mTab_takeOut.2.1 39 = .ok (.imul, 1) := by decide +kernel
theorem dTab_takeOut_40 : decode mTab_takeOut.2.1 40 = .ok (.iconst 3, 1) := by decide +kernel
theorem dTab_takeOut_41 : decode mTab_takeOut.2.1 41 = .ok (.invokestatic 34, 3) := by decide +kernel
theorem dTab_takeOut_44 : decode mTab_takeOut.2.1 44 = .ok (.iinc 3 1, 3) := by decide +kernel
theorem dTab_takeOut_47 : decode mTab_takeOut.2.1 47 = .ok (.iinc 4 1, 3) := by decide +kernel
theorem dTab_takeOut_50 : decode mTab_takeOut.2.1 50 = .ok (.goto (-45), 3) := by decide +kernel
theorem dTab_takeOut_53 : decode mTab_takeOut.2.1 53 = .ok (.aload_n 0, 1) := by decide +kernel
theorem dTab_takeOut_54 : decode mTab_takeOut.2.1 54 = .ok (.getfield 23, 3) := by decide +kernel
theorem dTab_takeOut_57 : decode mTab_takeOut.2.1 57 = .ok (.iload_n 3, 1) := by decide +kernel
theorem dTab_takeOut_58 : decode mTab_takeOut.2.1 58 = .ok (.isub, 1) := by decide +kernel
theorem dTab_takeOut_59 : decode mTab_takeOut.2.1 59 = .ok (.istore 4, 2) := by decide +kernel
theorem dTab_takeOut_61 : decode mTab_takeOut.2.1 61 = .ok (.aload_n 0, 1) := by decide +kernel
theorem dTab_takeOut_62 : decode mTab_takeOut.2.1 62 = .ok (.iload_n 3, 1) := by decide +kernel
theorem dTab_takeOut_63 : decode mTab_takeOut.2.1 63 = .ok (.putfield 23, 3) := by decide +kernel
theorem dTab_takeOut_66 : decode mTab_takeOut.2.1 66 = .ok (.iload 4, 2) := by decide +kernel
theorem dTab_takeOut_68 : decode mTab_takeOut.2.1 68 = .ok (.ireturn, 1) := by decide +kernel
def lTab_takeOut_5 (a1 : Int32) (a2 : Int32) (a3 : Int32) (a4 : Int32) (t : Nat) : List Slot := [.val (.ref t), .val (.int a1), .val (.int a2), .val (.int a3), .val (.int a4)]
def lTab_takeOut_21 (a1 : Int32) (a2 : Int32) (a3 : Int32) (a4 : Int32) (t : Nat) : List Slot := [.val (.ref t), .val (.int a1), .val (.int a2), .val (.int a3), .val (.int a4)]
theorem bTab_takeOut_0 {t : Nat} {a1 : Int32} {a2 : Int32} (hX : X.length = 13) (ht : kTab t) (k1 : QW d mTab_takeOut 5 (lTab_takeOut_5 a1 a2 0 0 t) [] (hpo X mem sw o e) P) : QW d mTab_takeOut 0 (qen 5 [.ref t, .int a1, .int a2]) [] (hpo X mem sw o e) P := by
  show QW d mTab_takeOut 0 [.val (.ref t), .val (.int a1), .val (.int a2), .unset, .unset] [] (hpo X mem sw o e) P
  refine QW.iconst (v := 0) dTab_takeOut_0 (by decide) ?_
  refine QW.istore_n (ls' := [.val (.ref t), .val (.int a1), .val (.int a2), .val (.int 0), .unset]) dTab_takeOut_1 rfl rfl ?_
  refine QW.iconst (v := 0) dTab_takeOut_2 (by decide) ?_
  refine QW.istore (ls' := [.val (.ref t), .val (.int a1), .val (.int a2), .val (.int 0), .val (.int 0)]) dTab_takeOut_3 rfl ?_
  exact k1
theorem bTab_takeOut_5 {t : Nat} {a1 : Int32} {a2 : Int32} {a3 : Int32} {a4 : Int32} (hX : X.length = 13) (ht : kTab t) (k1 : ((mem t 1) ≤ a4) → P (.inl (some (.int ((mem t 1) - a3))), (hpo X (mup mem t 1 a3) sw o e))) (k2 : (¬ (mem t 1) ≤ a4) → QW d mTab_cell 0 (qen 3 [.ref t, .int a4, .int a1]) [] (hpo X mem sw o e) (qcl d mTab_takeOut 18 21 (lTab_takeOut_21 a1 a2 a3 a4 t) [] P)) : QW (d + 1) mTab_takeOut 5 (lTab_takeOut_5 a1 a2 a3 a4 t) [] (hpo X mem sw o e) P := by
  show QW (d + 1) mTab_takeOut 5 [.val (.ref t), .val (.int a1), .val (.int a2), .val (.int a3), .val (.int a4)] [] (hpo X mem sw o e) P
  refine QW.iload dTab_takeOut_5 rfl ?_
  refine QW.aload_n dTab_takeOut_7 rfl rfl ?_
  refine MW.geti hX dTab_takeOut_8 fTab_23 (kTab_0 ht) rfl ?_
  refine QW.icmp_ge (tgt := 53) dTab_takeOut_11 (by decide) (fun z0 => ?_) (fun z0 => ?_)
  · refine QW.aload_n dTab_takeOut_53 rfl rfl ?_
    refine MW.geti hX dTab_takeOut_54 fTab_23 (kTab_0 ht) rfl ?_
    refine QW.iload_n dTab_takeOut_57 rfl rfl ?_
    refine QW.isub dTab_takeOut_58 ?_
    refine QW.istore (ls' := [.val (.ref t), .val (.int a1), .val (.int a2), .val (.int a3), .val (.int ((mem t 1) - a3))]) dTab_takeOut_59 rfl ?_
    refine QW.aload_n dTab_takeOut_61 rfl rfl ?_
    refine QW.iload_n dTab_takeOut_62 rfl rfl ?_
    refine MW.puti hX dTab_takeOut_63 fTab_23 (kTab_0 ht) rfl rfl ?_
    refine QW.iload dTab_takeOut_66 rfl ?_
    exact QW.iret dTab_takeOut_68 rfl rfl (k1 z0)
  · refine QW.aload_n dTab_takeOut_14 rfl rfl ?_
    refine QW.iload dTab_takeOut_15 rfl ?_
    refine QW.iload_n dTab_takeOut_17 rfl rfl ?_
    exact MW.calV (as := [.int a4, .int a1]) (rest := []) hX dTab_takeOut_18 eTab_cell lTab_26 iTab_cell vTab_cell rfl rfl (kTab_0 ht) rfl rfl rfl (Nat.le_of_ble_eq_true rfl) rfl (k2 z0)
theorem bTab_takeOut_21 {t : Nat} {a1 : Int32} {a2 : Int32} {a3 : Int32} {a4 : Int32} {s0 : Int32} (hX : X.length = 13) (ht : kTab t) (k1 : (s0 = a2) → QW d mTab_takeOut 5 (lTab_takeOut_5 a1 a2 a3 (a4 + 1) t) [] (hpo X mem sw o e) P) (h2 : (¬ s0 = a2) → ¬ (a4 * 3) < 0) (h3 : (¬ s0 = a2) → ¬ (a3 * 3) < 0) (h4 : (¬ s0 = a2) → Int32.toNatClampNeg (a4 * 3) + Int32.toNatClampNeg 3 ≤ 24) (h5 : (¬ s0 = a2) → Int32.toNatClampNeg (a3 * 3) + Int32.toNatClampNeg 3 ≤ 24) (k6 : (¬ s0 = a2) → QW d mTab_takeOut 5 (lTab_takeOut_5 a1 a2 (a3 + 1) (a4 + 1) t) [] (hpo X (mcp mem (t + 2) (t + 2) (Int32.toNatClampNeg (a4 * 3)) (Int32.toNatClampNeg (a3 * 3)) (Int32.toNatClampNeg 3)) sw o e) P) : QW d mTab_takeOut 21 (lTab_takeOut_21 a1 a2 a3 a4 t) [.int s0] (hpo X mem sw o e) P := by
  show QW d mTab_takeOut 21 [.val (.ref t), .val (.int a1), .val (.int a2), .val (.int a3), .val (.int a4)] [.int s0] (hpo X mem sw o e) P
  refine QW.iload_n dTab_takeOut_21 rfl rfl ?_
  refine QW.icmp_eq (tgt := 47) dTab_takeOut_22 (by decide) (fun z0 => ?_) (fun z0 => ?_)
  · refine MW.iinc (c := 1) (ls' := [.val (.ref t), .val (.int a1), .val (.int a2), .val (.int a3), .val (.int (a4 + 1))]) dTab_takeOut_47 (by decide) rfl rfl ?_
    refine QW.goto (tgt := 5) dTab_takeOut_50 (by decide) ?_
    exact (k1 z0)
  · refine QW.aload_n dTab_takeOut_25 rfl rfl ?_
    refine MW.getr (r' := (t + 2)) hX dTab_takeOut_26 fTab_15 (kTab_0 ht) rfl (kTab_s2 ht _) ?_
    refine QW.iload dTab_takeOut_29 rfl ?_
    refine QW.iconst (v := 3) dTab_takeOut_31 (by decide) ?_
    refine QW.imul dTab_takeOut_32 ?_
    refine QW.aload_n dTab_takeOut_33 rfl rfl ?_
    refine MW.getr (r' := (t + 2)) hX dTab_takeOut_34 fTab_15 (kTab_0 ht) rfl (kTab_s2 ht _) ?_
    refine QW.iload_n dTab_takeOut_37 rfl rfl ?_
    refine QW.iconst (v := 3) dTab_takeOut_38 (by decide) ?_
    refine QW.imul dTab_takeOut_39 ?_
    refine QW.iconst (v := 3) dTab_takeOut_40 (by decide) ?_
    refine MW.copy hX dTab_takeOut_41 q_acT (kTab_2 ht) (kTab_2 ht) (h2 z0) (h3 z0) (by decide) (h4 z0) (h5 z0) rfl (Nat.le_of_ble_eq_true rfl) ?_
    refine MW.iinc (c := 1) (ls' := [.val (.ref t), .val (.int a1), .val (.int a2), .val (.int (a3 + 1)), .val (.int a4)]) dTab_takeOut_44 (by decide) rfl rfl ?_
    refine MW.iinc (c := 1) (ls' := [.val (.ref t), .val (.int a1), .val (.int a2), .val (.int (a3 + 1)), .val (.int (a4 + 1))]) dTab_takeOut_47 (by decide) rfl rfl ?_
    refine QW.goto (tgt := 5) dTab_takeOut_50 (by decide) ?_
    exact (k6 z0)
theorem dBag_add_0 : decode mBag_add.2.1 0 = .ok (.aload_n 0, 1) := by decide +kernel
theorem dBag_add_1 : decode mBag_add.2.1 1 = .ok (.aload_n 1, 1) := by decide +kernel
theorem dBag_add_2 : decode mBag_add.2.1 2 = .ok (.iload_n 2, 1) := by decide +kernel
theorem dBag_add_3 : decode mBag_add.2.1 3 = .ok (.invokevirtual 25, 3) := by decide +kernel
theorem dBag_add_6 : decode mBag_add.2.1 6 = .ok (.istore 4, 2) := by decide +kernel
theorem dBag_add_8 : decode mBag_add.2.1 8 = .ok (.iload 4, 2) := by decide +kernel
theorem dBag_add_10 : decode mBag_add.2.1 10 = .ok (.aload_n 0, 1) := by decide +kernel
theorem dBag_add_11 : decode mBag_add.2.1 11 = .ok (.getfield 22, 3) := by decide +kernel
theorem dBag_add_14 : decode mBag_add.2.1 14 = .ok (.if_icmp .ge 27, 3) := by decide +kernel
theorem dBag_add_17 : decode mBag_add.2.1 17 = .ok (.aload_n 0, 1) := by decide +kernel
theorem dBag_add_18 : decode mBag_add.2.1 18 = .ok (.iload 4, 2) := by decide +kernel
theorem dBag_add_20 : decode mBag_add.2.1 20 = .ok (.aload_n 1, 1) := by decide +kernel
theorem dBag_add_21 : decode mBag_add.2.1 21 = .ok (.iload_n 2, 1) := by decide +kernel
theorem dBag_add_22 : decode mBag_add.2.1 22 = .ok (.invokevirtual 29, 3) := by decide +kernel
theorem dBag_add_25 : decode mBag_add.2.1 25 = .ok (.ifCond .ne 16, 3) := by decide +kernel
theorem dBag_add_28 : decode mBag_add.2.1 28 = .ok (.aload_n 0, 1) := by decide +kernel
theorem dBag_add_29 : decode mBag_add.2.1 29 = .ok (.getfield 15, 3) := by decide +kernel
theorem dBag_add_32 : decode mBag_add.2.1 32 = .ok (.iload 4, 2) := by decide +kernel
theorem dBag_add_34 : decode mBag_add.2.1 34 = .ok (.dup2, 1) := by decide +kernel
theorem dBag_add_35 : decode mBag_add.2.1 35 = .ok (.iaload, 1) := by decide +kernel
theorem dBag_add_36 : decode mBag_add.2.1 36 = .ok (.iload_n 3, 1) := by decide +kernel
theorem dBag_add_37 : decode mBag_add.2.1 37 = .ok (.iadd, 1) := by decide +kernel
theorem dBag_add_38 : decode mBag_add.2.1 38 = .ok (.iastore, 1) := by decide +kernel
theorem dBag_add_39 : decode mBag_add.2.1 39 = .ok (.iconst 1, 1) := by decide +kernel
theorem dBag_add_40 : decode mBag_add.2.1 40 = .ok (.ireturn, 1) := by decide +kernel
theorem dBag_add_41 : decode mBag_add.2.1 41 = .ok (.aload_n 0, 1) := by decide +kernel
theorem dBag_add_42 : decode mBag_add.2.1 42 = .ok (.getfield 22, 3) := by decide +kernel
theorem dBag_add_45 : decode mBag_add.2.1 45 = .ok (.bipush 64, 2) := by decide +kernel
theorem dBag_add_47 : decode mBag_add.2.1 47 = .ok (.if_icmp .lt 5, 3) := by decide +kernel
theorem dBag_add_50 : decode mBag_add.2.1 50 = .ok (.iconst 0, 1) := by decide +kernel
theorem dBag_add_51 : decode mBag_add.2.1 51 = .ok (.ireturn, 1) := by decide +kernel
theorem dBag_add_52 : decode mBag_add.2.1 52 = .ok (.aload_n 0, 1) := by decide +kernel
theorem dBag_add_53 : decode mBag_add.2.1 53 = .ok (.getfield 9, 3) := by decide +kernel
theorem dBag_add_56 : decode mBag_add.2.1 56 = .ok (.iload 4, 2) := by decide +kernel
theorem dBag_add_58 : decode mBag_add.2.1 58 = .ok (.iconst 3, 1) := by decide +kernel
theorem dBag_add_59 : decode mBag_add.2.1 59 = .ok (.imul, 1) := by decide +kernel
theorem dBag_add_60 : decode mBag_add.2.1 60 = .ok (.aload_n 0, 1) := by decide +kernel
theorem dBag_add_61 : decode mBag_add.2.1 61 = .ok (.getfield 9, 3) := by decide +kernel
theorem dBag_add_64 : decode mBag_add.2.1 64 = .ok (.iload 4, 2) := by decide +kernel
theorem dBag_add_66 : decode mBag_add.2.1 66 = .ok (.iconst 1, 1) := by decide +kernel
theorem dBag_add_67 : decode mBag_add.2.1 67 = .ok (.iadd, 1) := by decide +kernel
theorem dBag_add_68 : decode mBag_add.2.1 68 = .ok (.iconst 3, 1) := by decide +kernel
theorem dBag_add_69 : decode mBag_add.2.1 69 = .ok (.imul, 1) := by decide +kernel
theorem dBag_add_70 : decode mBag_add.2.1 70 = .ok (.aload_n 0, 1) := by decide +kernel
theorem dBag_add_71 : decode mBag_add.2.1 71 = .ok (.getfield 22, 3) := by decide +kernel
theorem dBag_add_74 : decode mBag_add.2.1 74 = .ok (.iload 4, 2) := by decide +kernel
theorem dBag_add_76 : decode mBag_add.2.1 76 = .ok (.isub, 1) := by decide +kernel
theorem dBag_add_77 : decode mBag_add.2.1 77 = .ok (.iconst 3, 1) := by decide +kernel
theorem dBag_add_78 : decode mBag_add.2.1 78 = .ok (.imul, 1) := by decide +kernel
theorem dBag_add_79 : decode mBag_add.2.1 79 = .ok (.invokestatic 33, 3) := by decide +kernel
theorem dBag_add_82 : decode mBag_add.2.1 82 = .ok (.aload_n 0, 1) := by decide +kernel
theorem dBag_add_83 : decode mBag_add.2.1 83 = .ok (.getfield 15, 3) := by decide +kernel
theorem dBag_add_86 : decode mBag_add.2.1 86 = .ok (.iload 4, 2) := by decide +kernel
theorem dBag_add_88 : decode mBag_add.2.1 88 = .ok (.aload_n 0, 1) := by decide +kernel
theorem dBag_add_89 : decode mBag_add.2.1 89 = .ok (.getfield 15, 3) := by decide +kernel
theorem dBag_add_92 : decode mBag_add.2.1 92 = .ok (.iload 4, 2) := by decide +kernel
theorem dBag_add_94 : decode mBag_add.2.1 94 = .ok (.iconst 1, 1) := by decide +kernel
theorem dBag_add_95 : decode mBag_add.2.1 95 = .ok (.iadd, 1) := by decide +kernel
theorem dBag_add_96 : decode mBag_add.2.1 96 = .ok (.aload_n 0, 1) := by decide +kernel
theorem dBag_add_97 : decode mBag_add.2.1 97 = .ok (.getfield 22, 3) := by decide +kernel
theorem dBag_add_100 : decode mBag_add.2.1 100 = .ok (.iload 4, 2) := by decide +kernel
theorem dBag_add_102 : decode mBag_add.2.1 102 = .ok (.isub, 1) := by decide +kernel
theorem dBag_add_103 : decode mBag_add.2.1 103 = .ok (.invokestatic 33, 3) := by decide +kernel
theorem dBag_add_106 : decode mBag_add.2.1 106 = .ok (.aload_n 1, 1) := by decide +kernel
theorem dBag_add_107 : decode mBag_add.2.1 107 = .ok (.iload_n 2, 1) := by decide +kernel
theorem dBag_add_108 : decode mBag_add.2.1 108 = .ok (.aload_n 0, 1) := by decide +kernel
theorem dBag_add_109 : decode mBag_add.2.1 109 = .ok (.getfield 9, 3) := by decide +kernel
theorem dBag_add_112 : decode mBag_add.2.1 112 = .ok (.iload 4, 2) := by decide +kernel
theorem dBag_add_114 : decode mBag_add.2.1 114 = .ok (.iconst 3, 1) := by decide +kernel
theorem dBag_add_115 : decode mBag_add.2.1 115 = .ok (.imul, 1) := by decide +kernel
theorem dBag_add_116 : decode mBag_add.2.1 116 = .ok (.aload_n 0, 1) := by decide +kernel
theorem dBag_add_117 : decode mBag_add.2.1 117 = .ok (.getfield 18, 3) := by decide +kernel
theorem dBag_add_120 : decode mBag_add.2.1 120 = .ok (.invokestatic 33, 3) := by decide +kernel
theorem dBag_add_123 : decode mBag_add.2.1 123 = .ok (.aload_n 0, 1) := by decide +kernel
theorem dBag_add_124 : decode mBag_add.2.1 124 = .ok (.getfield 15, 3) := by decide +kernel
theorem dBag_add_127 : decode mBag_add.2.1 127 = .ok (.iload 4, 2) := by decide +kernel
theorem dBag_add_129 : decode mBag_add.2.1 129 = .ok (.iload_n 3, 1) := by decide +kernel
theorem dBag_add_130 : decode mBag_add.2.1 130 = .ok (.iastore, 1) := by decide +kernel
theorem dBag_add_131 : decode mBag_add.2.1 131 = .ok (.aload_n 0, 1) := by decide +kernel
theorem dBag_add_132 : decode mBag_add.2.1 132 = .ok (.dup, 1) := by decide +kernel
theorem dBag_add_133 : decode mBag_add.2.1 133 = .ok (.getfield 22, 3) := by decide +kernel
theorem dBag_add_136 : decode mBag_add.2.1 136 = .ok (.iconst 1, 1) := by decide +kernel
theorem dBag_add_137 : decode mBag_add.2.1 137 = .ok (.iadd, 1) := by decide +kernel
theorem dBag_add_138 : decode mBag_add.2.1 138 = .ok (.putfield 22, 3) := by decide +kernel
theorem dBag_add_141 : decode mBag_add.2.1 141 = .ok (.iconst 1, 1) := by decide +kernel
theorem dBag_add_142 : decode mBag_add.2.1 142 = .ok (.ireturn, 1) := by decide +kernel
def lBag_add_6 (a2 : Int32) (a3 : Int32) (t : Nat) (r1 : Nat) : List Slot := [.val (.ref t), .val (.ref r1), .val (.int a2), .val (.int a3), .unset]
def lBag_add_25 (a2 : Int32) (a3 : Int32) (a4 : Int32) (t : Nat) (r1 : Nat) : List Slot := [.val (.ref t), .val (.ref r1), .val (.int a2), .val (.int a3), .val (.int a4)]
def lBag_add_41 (a2 : Int32) (a3 : Int32) (a4 : Int32) (t : Nat) (r1 : Nat) : List Slot := [.val (.ref t), .val (.ref r1), .val (.int a2), .val (.int a3), .val (.int a4)]
theorem bBag_add_0 {t : Nat} {r1 n1 : Nat} {a2 : Int32} {a3 : Int32} (hX : X.length = 13) (ht : kBag t) (hr1 : sh r1 = some (64, List.replicate n1 none)) (k1 : QW d mBag_firstNotBefore 0 (qen 7 [.ref t, .ref r1, .int a2]) [] (hpo X mem sw o e) (qcl d mBag_add 3 6 (lBag_add_6 a2 a3 t r1) [] P)) : QW (d + 1) mBag_add 0 (qen 5 [.ref t, .ref r1, .int a2, .int a3]) [] (hpo X mem sw o e) P := by
  show QW (d + 1) mBag_add 0 [.val (.ref t), .val (.ref r1), .val (.int a2), .val (.int a3), .unset] [] (hpo X mem sw o e) P
  refine QW.aload_n dBag_add_0 rfl rfl ?_
  refine QW.aload_n dBag_add_1 rfl rfl ?_
  refine QW.iload_n dBag_add_2 rfl rfl ?_
  exact MW.calV (as := [.ref r1, .int a2]) (rest := []) hX dBag_add_3 eBag_firstNotBefore lBag_25 iBag_firstNotBefore vBag_firstNotBefore rfl rfl (kBag_0 ht) rfl rfl rfl (Nat.le_of_ble_eq_true rfl) rfl k1
theorem bBag_add_6 {t : Nat} {r1 n1 : Nat} {a2 : Int32} {a3 : Int32} {s0 : Int32} (hX : X.length = 13) (ht : kBag t) (hr1 : sh r1 = some (64, List.replicate n1 none)) (k1 : ((mem t 1) ≤ s0) → QW (d + 1) mBag_add 41 (lBag_add_41 a2 a3 s0 t r1) [] (hpo X mem sw o e) P) (k2 : (¬ (mem t 1) ≤ s0) → QW d mBag_compare 0 (qen 6 [.ref t, .int s0, .ref r1, .int a2]) [] (hpo X mem sw o e) (qcl d mBag_add 22 25 (lBag_add_25 a2 a3 s0 t r1) [] P)) : QW (d + 1) mBag_add 6 (lBag_add_6 a2 a3 t r1) [.int s0] (hpo X mem sw o e) P := by
  show QW (d + 1) mBag_add 6 [.val (.ref t), .val (.ref r1), .val (.int a2), .val (.int a3), .unset] [.int s0] (hpo X mem sw o e) P
  refine QW.istore (ls' := [.val (.ref t), .val (.ref r1), .val (.int a2), .val (.int a3), .val (.int s0)]) dBag_add_6 rfl ?_
  refine QW.iload dBag_add_8 rfl ?_
  refine QW.aload_n dBag_add_10 rfl rfl ?_
  refine MW.geti hX dBag_add_11 fBag_22 (kBag_0 ht) rfl ?_
  refine QW.icmp_ge (tgt := 41) dBag_add_14 (by decide) (fun z0 => ?_) (fun z0 => ?_)
  · exact (k1 z0)
  · refine QW.aload_n dBag_add_17 rfl rfl ?_
    refine QW.iload dBag_add_18 rfl ?_
    refine QW.aload_n dBag_add_20 rfl rfl ?_
    refine QW.iload_n dBag_add_21 rfl rfl ?_
    exact MW.calV (as := [.int s0, .ref r1, .int a2]) (rest := []) hX dBag_add_22 eBag_compare lBag_29 iBag_compare vBag_compare rfl rfl (kBag_0 ht) rfl rfl rfl (Nat.le_of_ble_eq_true rfl) rfl (k2 z0)
theorem bBag_add_25 {t : Nat} {r1 n1 : Nat} {a2 : Int32} {a3 : Int32} {a4 : Int32} {s0 : Int32} (hX : X.length = 13) (ht : kBag t) (hr1 : sh r1 = some (64, List.replicate n1 none)) (k1 : (¬ s0 = 0) → QW d mBag_add 41 (lBag_add_41 a2 a3 a4 t r1) [] (hpo X mem sw o e) P) (h2 : (s0 = 0) → inx a4 64) (h3 : (s0 = 0) → inx a4 64) (k4 : (s0 = 0) → P (.inl (some (.int 1)), (hpo X (mup mem (t + 2) (Int32.toNatClampNeg a4) ((mem (t + 2) (Int32.toNatClampNeg a4)) + a3)) sw o e))) : QW d mBag_add 25 (lBag_add_25 a2 a3 a4 t r1) [.int s0] (hpo X mem sw o e) P := by
  show QW d mBag_add 25 [.val (.ref t), .val (.ref r1), .val (.int a2), .val (.int a3), .val (.int a4)] [.int s0] (hpo X mem sw o e) P
  refine QW.if_ne (tgt := 41) dBag_add_25 (by decide) (fun z0 => ?_) (fun z0 => ?_)
  · exact (k1 z0)
  · refine QW.aload_n dBag_add_28 rfl rfl ?_
    refine MW.getr (r' := (t + 2)) hX dBag_add_29 fBag_15 (kBag_0 ht) rfl (kBag_s2 ht _) ?_
    refine QW.iload dBag_add_32 rfl ?_
    refine QW.dup2 dBag_add_34 rfl rfl ?_
    refine MW.iald hX dBag_add_35 (kBag_2 ht) (h2 z0).1 (rep_get (h2 z0).2) ?_
    refine QW.iload_n dBag_add_36 rfl rfl ?_
    refine QW.iadd dBag_add_37 ?_
    refine MW.iast hX dBag_add_38 (kBag_2 ht) (h3 z0).1 (rep_get (h3 z0).2) ?_
    refine QW.iconst (v := 1) dBag_add_39 (by decide) ?_
    exact QW.iret dBag_add_40 rfl rfl (k4 z0)
theorem bBag_add_41 {t : Nat} {r1 n1 : Nat} {a2 : Int32} {a3 : Int32} {a4 : Int32} (hX : X.length = 13) (ht : kBag t) (hr1 : sh r1 = some (64, List.replicate n1 none)) (h1 : ((mem t 1) < 64) → ¬ (a4 * 3) < 0) (h2 : ((mem t 1) < 64) → ¬ ((a4 + 1) * 3) < 0) (h3 : ((mem t 1) < 64) → ¬ (((mem t 1) - a4) * 3) < 0) (h4 : ((mem t 1) < 64) → Int32.toNatClampNeg (a4 * 3) + Int32.toNatClampNeg (((mem t 1) - a4) * 3) ≤ 192) (h5 : ((mem t 1) < 64) → Int32.toNatClampNeg ((a4 + 1) * 3) + Int32.toNatClampNeg (((mem t 1) - a4) * 3) ≤ 192) (h6 : ((mem t 1) < 64) → ¬ a4 < 0) (h7 : ((mem t 1) < 64) → ¬ (a4 + 1) < 0) (h8 : ((mem t 1) < 64) → ¬ (((mcp mem (t + 1) (t + 1) (Int32.toNatClampNeg (a4 * 3)) (Int32.toNatClampNeg ((a4 + 1) * 3)) (Int32.toNatClampNeg (((mem t 1) - a4) * 3))) t 1) - a4) < 0) (h9 : ((mem t 1) < 64) → Int32.toNatClampNeg a4 + Int32.toNatClampNeg (((mcp mem (t + 1) (t + 1) (Int32.toNatClampNeg (a4 * 3)) (Int32.toNatClampNeg ((a4 + 1) * 3)) (Int32.toNatClampNeg (((mem t 1) - a4) * 3))) t 1) - a4) ≤ 64) (h10 : ((mem t 1) < 64) → Int32.toNatClampNeg (a4 + 1) + Int32.toNatClampNeg (((mcp mem (t + 1) (t + 1) (Int32.toNatClampNeg (a4 * 3)) (Int32.toNatClampNeg ((a4 + 1) * 3)) (Int32.toNatClampNeg (((mem t 1) - a4) * 3))) t 1) - a4) ≤ 64) (h11 : ((mem t 1) < 64) → ¬ a2 < 0) (h12 : ((mem t 1) < 64) → ¬ (a4 * 3) < 0) (h13 : ((mem t 1) < 64) → ¬ ((mcp (mcp mem (t + 1) (t + 1) (Int32.toNatClampNeg (a4 * 3)) (Int32.toNatClampNeg ((a4 + 1) * 3)) (Int32.toNatClampNeg (((mem t 1) - a4) * 3))) (t + 2) (t + 2) (Int32.toNatClampNeg a4) (Int32.toNatClampNeg (a4 + 1)) (Int32.toNatClampNeg (((mcp mem (t + 1) (t + 1) (Int32.toNatClampNeg (a4 * 3)) (Int32.toNatClampNeg ((a4 + 1) * 3)) (Int32.toNatClampNeg (((mem t 1) - a4) * 3))) t 1) - a4))) t 0) < 0) (h14 : ((mem t 1) < 64) → Int32.toNatClampNeg a2 + Int32.toNatClampNeg ((mcp (mcp mem (t + 1) (t + 1) (Int32.toNatClampNeg (a4 * 3)) (Int32.toNatClampNeg ((a4 + 1) * 3)) (Int32.toNatClampNeg (((mem t 1) - a4) * 3))) (t + 2) (t + 2) (Int32.toNatClampNeg a4) (Int32.toNatClampNeg (a4 + 1)) (Int32.toNatClampNeg (((mcp mem (t + 1) (t + 1) (Int32.toNatClampNeg (a4 * 3)) (Int32.toNatClampNeg ((a4 + 1) * 3)) (Int32.toNatClampNeg (((mem t 1) - a4) * 3))) t 1) - a4))) t 0) ≤ n1) (h15 : ((mem t 1) < 64) → Int32.toNatClampNeg (a4 * 3) + Int32.toNatClampNeg ((mcp (mcp mem (t + 1) (t + 1) (Int32.toNatClampNeg (a4 * 3)) (Int32.toNatClampNeg ((a4 + 1) * 3)) (Int32.toNatClampNeg (((mem t 1) - a4) * 3))) (t + 2) (t + 2) (Int32.toNatClampNeg a4) (Int32.toNatClampNeg (a4 + 1)) (Int32.toNatClampNeg (((mcp mem (t + 1) (t + 1) (Int32.toNatClampNeg (a4 * 3)) (Int32.toNatClampNeg ((a4 + 1) * 3)) (Int32.toNatClampNeg (((mem t 1) - a4) * 3))) t 1) - a4))) t 0) ≤ 192) (h16 : ((mem t 1) < 64) → inx a4 64) (k17 : ((mem t 1) < 64) → P (.inl (some (.int 1)), (hpo X (mup (mup (mcp (mcp (mcp mem (t + 1) (t + 1) (Int32.toNatClampNeg (a4 * 3)) (Int32.toNatClampNeg ((a4 + 1) * 3)) (Int32.toNatClampNeg (((mem t 1) - a4) * 3))) (t + 2) (t + 2) (Int32.toNatClampNeg a4) (Int32.toNatClampNeg (a4 + 1)) (Int32.toNatClampNeg (((mcp mem (t + 1) (t + 1) (Int32.toNatClampNeg (a4 * 3)) (Int32.toNatClampNeg ((a4 + 1) * 3)) (Int32.toNatClampNeg (((mem t 1) - a4) * 3))) t 1) - a4))) r1 (t + 1) (Int32.toNatClampNeg a2) (Int32.toNatClampNeg (a4 * 3)) (Int32.toNatClampNeg ((mcp (mcp mem (t + 1) (t + 1) (Int32.toNatClampNeg (a4 * 3)) (Int32.toNatClampNeg ((a4 + 1) * 3)) (Int32.toNatClampNeg (((mem t 1) - a4) * 3))) (t + 2) (t + 2) (Int32.toNatClampNeg a4) (Int32.toNatClampNeg (a4 + 1)) (Int32.toNatClampNeg (((mcp mem (t + 1) (t + 1) (Int32.toNatClampNeg (a4 * 3)) (Int32.toNatClampNeg ((a4 + 1) * 3)) (Int32.toNatClampNeg (((mem t 1) - a4) * 3))) t 1) - a4))) t 0))) (t + 2) (Int32.toNatClampNeg a4) a3) t 1 (((mup (mcp (mcp (mcp mem (t + 1) (t + 1) (Int32.toNatClampNeg (a4 * 3)) (Int32.toNatClampNeg ((a4 + 1) * 3)) (Int32.toNatClampNeg (((mem t 1) - a4) * 3))) (t + 2) (t + 2) (Int32.toNatClampNeg a4) (Int32.toNatClampNeg (a4 + 1)) (Int32.toNatClampNeg (((mcp mem (t + 1) (t + 1) (Int32.toNatClampNeg (a4 * 3)) (Int32.toNatClampNeg ((a4 + 1) * 3)) (Int32.toNatClampNeg (((mem t 1) - a4) * 3))) t 1) - a4))) r1 (t + 1) (Int32.toNatClampNeg a2) (Int32.toNatClampNeg (a4 * 3)) (Int32.toNatClampNeg ((mcp (mcp mem (t + 1) (t + 1) (Int32.toNatClampNeg (a4 * 3)) (Int32.toNatClampNeg ((a4 + 1) * 3)) (Int32.toNatClampNeg (((mem t 1) - a4) * 3))) (t + 2) (t + 2) (Int32.toNatClampNeg a4) (Int32.toNatClampNeg (a4 + 1)) (Int32.toNatClampNeg (((mcp mem (t + 1) (t + 1) (Int32.toNatClampNeg (a4 * 3)) (Int32.toNatClampNeg ((a4 + 1) * 3)) (Int32.toNatClampNeg (((mem t 1) - a4) * 3))) t 1) - a4))) t 0))) (t + 2) (Int32.toNatClampNeg a4) a3) t 1) + 1)) sw o e))) (k18 : (¬ (mem t 1) < 64) → P (.inl (some (.int 0)), (hpo X mem sw o e))) : QW d mBag_add 41 (lBag_add_41 a2 a3 a4 t r1) [] (hpo X mem sw o e) P := by
  show QW d mBag_add 41 [.val (.ref t), .val (.ref r1), .val (.int a2), .val (.int a3), .val (.int a4)] [] (hpo X mem sw o e) P
  refine QW.aload_n dBag_add_41 rfl rfl ?_
  refine MW.geti hX dBag_add_42 fBag_22 (kBag_0 ht) rfl ?_
  refine QW.bipush (v := 64) dBag_add_45 (by decide) ?_
  refine QW.icmp_lt (tgt := 52) dBag_add_47 (by decide) (fun z0 => ?_) (fun z0 => ?_)
  · refine QW.aload_n dBag_add_52 rfl rfl ?_
    refine MW.getr (r' := (t + 1)) hX dBag_add_53 fBag_9 (kBag_0 ht) rfl (kBag_s1 ht _) ?_
    refine QW.iload dBag_add_56 rfl ?_
    refine QW.iconst (v := 3) dBag_add_58 (by decide) ?_
    refine QW.imul dBag_add_59 ?_
    refine QW.aload_n dBag_add_60 rfl rfl ?_
    refine MW.getr (r' := (t + 1)) hX dBag_add_61 fBag_9 (kBag_0 ht) rfl (kBag_s1 ht _) ?_
    refine QW.iload dBag_add_64 rfl ?_
    refine QW.iconst (v := 1) dBag_add_66 (by decide) ?_
    refine QW.iadd dBag_add_67 ?_
    refine QW.iconst (v := 3) dBag_add_68 (by decide) ?_
    refine QW.imul dBag_add_69 ?_
    refine QW.aload_n dBag_add_70 rfl rfl ?_
    refine MW.geti hX dBag_add_71 fBag_22 (kBag_0 ht) rfl ?_
    refine QW.iload dBag_add_74 rfl ?_
    refine QW.isub dBag_add_76 ?_
    refine QW.iconst (v := 3) dBag_add_77 (by decide) ?_
    refine QW.imul dBag_add_78 ?_
    refine MW.copy hX dBag_add_79 q_acB (kBag_1 ht) (kBag_1 ht) (h1 z0) (h2 z0) (h3 z0) (h4 z0) (h5 z0) rfl (Nat.le_of_ble_eq_true rfl) ?_
    refine QW.aload_n dBag_add_82 rfl rfl ?_
    refine MW.getr (r' := (t + 2)) hX dBag_add_83 fBag_15 (kBag_0 ht) rfl (kBag_s2 ht _) ?_
    refine QW.iload dBag_add_86 rfl ?_
    refine QW.aload_n dBag_add_88 rfl rfl ?_
    refine MW.getr (r' := (t + 2)) hX dBag_add_89 fBag_15 (kBag_0 ht) rfl (kBag_s2 ht _) ?_
    refine QW.iload dBag_add_92 rfl ?_
    refine QW.iconst (v := 1) dBag_add_94 (by decide) ?_
    refine QW.iadd dBag_add_95 ?_
    refine QW.aload_n dBag_add_96 rfl rfl ?_
    refine MW.geti hX dBag_add_97 fBag_22 (kBag_0 ht) rfl ?_
    refine QW.iload dBag_add_100 rfl ?_
    refine QW.isub dBag_add_102 ?_
    refine MW.copy hX dBag_add_103 q_acB (kBag_2 ht) (kBag_2 ht) (h6 z0) (h7 z0) (h8 z0) (h9 z0) (h10 z0) rfl (Nat.le_of_ble_eq_true rfl) ?_
    refine QW.aload_n dBag_add_106 rfl rfl ?_
    refine QW.iload_n dBag_add_107 rfl rfl ?_
    refine QW.aload_n dBag_add_108 rfl rfl ?_
    refine MW.getr (r' := (t + 1)) hX dBag_add_109 fBag_9 (kBag_0 ht) rfl (kBag_s1 ht _) ?_
    refine QW.iload dBag_add_112 rfl ?_
    refine QW.iconst (v := 3) dBag_add_114 (by decide) ?_
    refine QW.imul dBag_add_115 ?_
    refine QW.aload_n dBag_add_116 rfl rfl ?_
    refine MW.geti hX dBag_add_117 fBag_18 (kBag_0 ht) rfl ?_
    refine MW.copy hX dBag_add_120 q_acB hr1 (kBag_1 ht) (h11 z0) (h12 z0) (h13 z0) (h14 z0) (h15 z0) rfl (Nat.le_of_ble_eq_true rfl) ?_
    refine QW.aload_n dBag_add_123 rfl rfl ?_
    refine MW.getr (r' := (t + 2)) hX dBag_add_124 fBag_15 (kBag_0 ht) rfl (kBag_s2 ht _) ?_
    refine QW.iload dBag_add_127 rfl ?_
    refine QW.iload_n dBag_add_129 rfl rfl ?_
    refine MW.iast hX dBag_add_130 (kBag_2 ht) (h16 z0).1 (rep_get (h16 z0).2) ?_
    refine QW.aload_n dBag_add_131 rfl rfl ?_
    refine QW.dup dBag_add_132 rfl ?_
    refine MW.geti hX dBag_add_133 fBag_22 (kBag_0 ht) rfl ?_
    refine QW.iconst (v := 1) dBag_add_136 (by decide) ?_
    refine QW.iadd dBag_add_137 ?_
    refine MW.puti hX dBag_add_138 fBag_22 (kBag_0 ht) rfl rfl ?_
    refine QW.iconst (v := 1) dBag_add_141 (by decide) ?_
    exact QW.iret dBag_add_142 rfl rfl (k17 z0)
  · refine QW.iconst (v := 0) dBag_add_50 (by decide) ?_
    exact QW.iret dBag_add_51 rfl rfl (k18 z0)
theorem dBag_join_0 : decode mBag_join.2.1 0 = .ok (.iload_n 1, 1) := by decide +kernel
theorem dBag_join_1 : decode mBag_join.2.1 1 = .ok (.bipush 43, 2) := by decide +kernel
theorem dBag_join_3 : decode mBag_join.2.1 3 = .ok (.if_icmp .ne 9, 3) := by decide +kernel
theorem dBag_join_6 : decode mBag_join.2.1 6 = .ok (.aload_n 0, 1) := by decide +kernel
theorem dBag_join_7 : decode mBag_join.2.1 7 = .ok (.aload_n 2, 1) := by decide +kernel
theorem dBag_join_8 : decode mBag_join.2.1 8 = .ok (.invokevirtual 39, 3) := by decide +kernel
theorem dBag_join_11 : decode mBag_join.2.1 11 = .ok (.ireturn, 1) := by decide +kernel
theorem dBag_join_12 : decode mBag_join.2.1 12 = .ok (.iconst 0, 1) := by decide +kernel
theorem dBag_join_13 : decode mBag_join.2.1 13 = .ok (.istore_n 3, 1) := by decide +kernel
theorem dBag_join_14 : decode mBag_join.2.1 14 = .ok (.iconst 0, 1) := by decide +kernel
theorem dBag_join_15 : decode mBag_join.2.1 15 = .ok (.istore 4, 2) := by decide +kernel
theorem dBag_join_17 : decode mBag_join.2.1 17 = .ok (.iload 4, 2) := by decide +kernel
theorem dBag_join_19 : decode mBag_join.2.1 19 = .ok (.aload_n 0, 1) := by decide +kernel
theorem dBag_join_20 : decode mBag_join.2.1 20 = .ok (.getfield 22, 3) := by decide +kernel
theorem dBag_join_23 : decode mBag_join.2.1 23 = .ok (.if_icmp .ge 94, 3) := by decide +kernel
theorem dBag_join_26 : decode mBag_join.2.1 26 = .ok (.aload_n 2, 1) := by decide +kernel
theorem dBag_join_27 : decode mBag_join.2.1 27 = .ok (.aload_n 0, 1) := by decide +kernel
theorem dBag_join_28 : decode mBag_join.2.1 28 = .ok (.getfield 9, 3) := by decide +kernel
theorem dBag_join_31 : decode mBag_join.2.1 31 = .ok (.iload 4, 2) := by decide +kernel
theorem dBag_join_33 : decode mBag_join.2.1 33 = .ok (.iconst 3, 1) := by decide +kernel
theorem dBag_join_34 : decode mBag_join.2.1 34 = .ok (.imul, 1) := by decide +kernel
theorem dBag_join_35 : decode mBag_join.2.1 35 = .ok (.invokevirtual 43, 3) := by decide +kernel
theorem dBag_join_38 : decode mBag_join.2.1 38 = .ok (.istore 5, 2) := by decide +kernel
theorem dBag_join_40 : decode mBag_join.2.1 40 = .ok (.iload_n 1, 1) := by decide +kernel
theorem dBag_join_41 : decode mBag_join.2.1 41 = .ok (.bipush 45, 2) := by decide +kernel
theorem dBag_join_43 : decode mBag_join.2.1 43 = .ok (.if_icmp .ne 16, 3) := by decide +kernel
theorem dBag_join_46 : decode mBag_join.2.1 46 = .ok (.aload_n 0, 1) := by decide +kernel
theorem dBag_join_47 : decode mBag_join.2.1 47 = .ok (.getfield 15, 3) := by decide +kernel
theorem dBag_join_50 : decode mBag_join.2.1 50 = .ok (.iload 4, 2) := by decide +kernel
theorem dBag_join_52 : decode mBag_join.2.1 52 = .ok (.iaload, 1) := by decide +kernel
theorem dBag_join_53 : decode mBag_join.2.1 53 = .ok (.iload 5, 2) := by decide +kernel
theorem dBag_join_55 : decode mBag_join.2.1 55 = .ok (.isub, 1) := by decide +kernel
theorem dBag_join_56 : decode mBag_join.2.1 56 = .ok (.goto 15, 3) := by decide +kernel
theorem dBag_join_59 : decode mBag_join.2.1 59 = .ok (.aload_n 0, 1) := by decide +kernel
theorem dBag_join_60 : decode mBag_join.2.1 60 = .ok (.getfield 15, 3) := by decide +kernel
theorem dBag_join_63 : decode mBag_join.2.1 63 = .ok (.iload 4, 2) := by decide +kernel
theorem dBag_join_65 : decode mBag_join.2.1 65 = .ok (.iaload, 1) := by decide +kernel
theorem dBag_join_66 : decode mBag_join.2.1 66 = .ok (.iload 5, 2) := by decide +kernel
theorem dBag_join_68 : decode mBag_join.2.1 68 = .ok (.invokestatic 46, 3) := by decide +kernel
theorem dBag_join_71 : decode mBag_join.2.1 71 = .ok (.istore 6, 2) := by decide +kernel
theorem dBag_join_73 : decode mBag_join.2.1 73 = .ok (.iload 6, 2) := by decide +kernel
theorem dBag_join_75 : decode mBag_join.2.1 75 = .ok (.ifCond .le 36, 3) := by decide +kernel
theorem dBag_join_78 : decode mBag_join.2.1 78 = .ok (.aload_n 0, 1) := by decide +kernel
theorem dBag_join_79 : decode mBag_join.2.1 79 = .ok (.getfield 9, 3) := by decide +kernel
theorem dBag_join_82 : decode mBag_join.2.1 82 = .ok (.iload 4, 2) := by decide +kernel
theorem dBag_join_84 : decode mBag_join.2.1 84 = .ok (.iconst 3, 1) := by decide +kernel
theorem dBag_join_85 : decode mBag_join.2.1 85 = .ok (.imul, 1) := by decide +kernel
theorem dBag_join_86 : decode mBag_join.2.1 86 = .ok (.aload_n 0, 1) := by decide +kernel
theorem dBag_join_87 : decode mBag_join.2.1 87 = .ok (.getfield 9, 3) := by decide +kernel
theorem dBag_join_90 : decode mBag_join.2.1 90 = .ok (.iload_n 3, 1) := by decide +kernel
theorem dBag_join_91 : decode mBag_join.2.1 91 = .ok (.iconst 3, 1) := by decide +kernel
theorem dBag_join_92 : decode mBag_join.2.1 92 = .ok (.imul, 1) := by decide +kernel
theorem dBag_join_93 : decode mBag_join.2.1 93 = .ok (.aload_n 0, 1) := by decide +kernel
theorem dBag_join_94 : decode mBag_join.2.1 94 = .ok (.getfield 18, 3) := by decide +kernel
theorem dBag_join_97 : decode mBag_join.2.1 97 = .ok (.invokestatic 33, 3) := by decide +kernel
theorem dBag_join_100 : decode mBag_join.2.1 100 = .ok (.aload_n 0, 1) := by decide +kernel
theorem dBag_join_101 : decode mBag_join.2.1 101 = .ok (.getfield 15, 3) := by decide +kernel
theorem dBag_join_104 : decode mBag_join.2.1 104 = .ok (.iload_n 3, 1) := by decide +kernel
theorem dBag_join_105 : decode mBag_join.2.1 105 = .ok (.iload 6, 2) := by decide +kernel
theorem dBag_join_107 : decode mBag_join.2.1 107 = .ok (.iastore, 1) := by decide +kernel
theorem dBag_join_108 : decode mBag_join.2.1 108 = .ok (.iinc 3 1, 3) := by decide +kernel
theorem dBag_join_111 : decode mBag_join.2.1 111 = .ok (.iinc 4 1, 3) := by decide +kernel
theorem dBag_join_114 : decode mBag_join.2.1 114 = .ok (.goto (-97), 3) := by decide +kernel
theorem dBag_join_117 : decode mBag_join.2.1 117 = .ok (.aload_n 0, 1) := by decide +kernel
theorem dBag_join_118 : decode mBag_join.2.1 118 = .ok (.iload_n 3, 1) := by decide +kernel
theorem dBag_join_119 : decode mBag_join.2.1 119 = .ok (.putfield 22, 3) := by decide +kernel
theorem dBag_join_122 : decode mBag_join.2.1 122 = .ok (.iconst 1, 1) := by decide +kernel
theorem dBag_join_123 : decode mBag_join.2.1 123 = .ok (.ireturn, 1) := by decide +kernel
def lBag_join_11 (a1 : Int32) (t : Nat) (r2 : Nat) : List Slot := [.val (.ref t), .val (.int a1), .val (.ref r2), .unset, .unset, .unset, .unset]
def lBag_join_17 (a1 : Int32) (a3 : Int32) (a4 : Int32) (w5 : Slot) (w6 : Slot) (t : Nat) (r2 : Nat) : List Slot := [.val (.ref t), .val (.int a1), .val (.ref r2), .val (.int a3), .val (.int a4), w5, w6]
def lBag_join_38 (a1 : Int32) (a3 : Int32) (a4 : Int32) (w5 : Slot) (w6 : Slot) (t : Nat) (r2 : Nat) : List Slot := [.val (.ref t), .val (.int a1), .val (.ref r2), .val (.int a3), .val (.int a4), w5, w6]
def lBag_join_71 (a1 : Int32) (a3 : Int32) (a4 : Int32) (a5 : Int32) (w6 : Slot) (t : Nat) (r2 : Nat) : List Slot := [.val (.ref t), .val (.int a1), .val (.ref r2), .val (.int a3), .val (.int a4), .val (.int a5), w6]
theorem bBag_join_0 {t : Nat} {r2 : Nat} {a1 : Int32} (hX : X.length = 13) (ht : kBag t) (hr2 : kBag r2) (k1 : (¬ a1 = 43) → QW (d + 1) mBag_join 17 (lBag_join_17 a1 0 0 .unset .unset t r2) [] (hpo X mem sw o e) P) (k2 : (a1 = 43) → QW d mBag_addAll 0 (qen 3 [.ref t, .ref r2]) [] (hpo X mem sw o e) (qcl d mBag_join 8 11 (lBag_join_11 a1 t r2) [] P)) : QW (d + 1) mBag_join 0 (qen 7 [.ref t, .int a1, .ref r2]) [] (hpo X mem sw o e) P := by
  show QW (d + 1) mBag_join 0 [.val (.ref t), .val (.int a1), .val (.ref r2), .unset, .unset, .unset, .unset] [] (hpo X mem sw o e) P
  refine QW.iload_n dBag_join_0 rfl rfl ?_
  refine QW.bipush (v := 43) dBag_join_1 (by decide) ?_
  refine QW.icmp_ne (tgt := 12) dBag_join_3 (by decide) (fun z0 => ?_) (fun z0 => ?_)
  · refine QW.iconst (v := 0) dBag_join_12 (by decide) ?_
    refine QW.istore_n (ls' := [.val (.ref t), .val (.int a1), .val (.ref r2), .val (.int 0), .unset, .unset, .unset]) dBag_join_13 rfl rfl ?_
    refine QW.iconst (v := 0) dBag_join_14 (by decide) ?_
    refine QW.istore (ls' := [.val (.ref t), .val (.int a1), .val (.ref r2), .val (.int 0), .val (.int 0), .unset, .unset]) dBag_join_15 rfl ?_
    exact (k1 z0)
  · refine QW.aload_n dBag_join_6 rfl rfl ?_
    refine QW.aload_n dBag_join_7 rfl rfl ?_
    exact MW.calV (as := [.ref r2]) (rest := []) hX dBag_join_8 eBag_addAll lBag_39 iBag_addAll vBag_addAll rfl rfl (kBag_0 ht) rfl rfl rfl (Nat.le_of_ble_eq_true rfl) rfl (k2 z0)
theorem bBag_join_11 {t : Nat} {r2 : Nat} {a1 : Int32} {s0 : Int32} (hX : X.length = 13) (ht : kBag t) (hr2 : kBag r2) (h1 : narrow .boolean (.int s0) = .int s0) (k2 : P (.inl (some (.int s0)), (hpo X mem sw o e))) : QW d mBag_join 11 (lBag_join_11 a1 t r2) [.int s0] (hpo X mem sw o e) P := by
  show QW d mBag_join 11 [.val (.ref t), .val (.int a1), .val (.ref r2), .unset, .unset, .unset, .unset] [.int s0] (hpo X mem sw o e) P
  exact QW.iret dBag_join_11 rfl h1 k2
theorem bBag_join_17 {t : Nat} {r2 : Nat} {a1 : Int32} {a3 : Int32} {a4 : Int32} {w5 : Slot} {w6 : Slot} (hX : X.length = 13) (ht : kBag t) (hr2 : kBag r2) (hw5 : qfr w5) (hw6 : qfr w6) (k1 : ((mem t 1) ≤ a4) → P (.inl (some (.int 1)), (hpo X (mup mem t 1 a3) sw o e))) (k2 : (¬ (mem t 1) ≤ a4) → QW d mBag_countOf 0 (qen 4 [.ref r2, .ref (t + 1), .int (a4 * 3)]) [] (hpo X mem sw o e) (qcl d mBag_join 35 38 (lBag_join_38 a1 a3 a4 w5 w6 t r2) [] P)) : QW (d + 1) mBag_join 17 (lBag_join_17 a1 a3 a4 w5 w6 t r2) [] (hpo X mem sw o e) P := by
  show QW (d + 1) mBag_join 17 [.val (.ref t), .val (.int a1), .val (.ref r2), .val (.int a3), .val (.int a4), w5, w6] [] (hpo X mem sw o e) P
  refine QW.iload dBag_join_17 rfl ?_
  refine QW.aload_n dBag_join_19 rfl rfl ?_
  refine MW.geti hX dBag_join_20 fBag_22 (kBag_0 ht) rfl ?_
  refine QW.icmp_ge (tgt := 117) dBag_join_23 (by decide) (fun z0 => ?_) (fun z0 => ?_)
  · refine QW.aload_n dBag_join_117 rfl rfl ?_
    refine QW.iload_n dBag_join_118 rfl rfl ?_
    refine MW.puti hX dBag_join_119 fBag_22 (kBag_0 ht) rfl rfl ?_
    refine QW.iconst (v := 1) dBag_join_122 (by decide) ?_
    exact QW.iret dBag_join_123 rfl rfl (k1 z0)
  · refine QW.aload_n dBag_join_26 rfl rfl ?_
    refine QW.aload_n dBag_join_27 rfl rfl ?_
    refine MW.getr (r' := (t + 1)) hX dBag_join_28 fBag_9 (kBag_0 ht) rfl (kBag_s1 ht _) ?_
    refine QW.iload dBag_join_31 rfl ?_
    refine QW.iconst (v := 3) dBag_join_33 (by decide) ?_
    refine QW.imul dBag_join_34 ?_
    exact MW.calV (as := [.ref (t + 1), .int (a4 * 3)]) (rest := []) hX dBag_join_35 eBag_countOf lBag_43 iBag_countOf vBag_countOf rfl rfl (kBag_0 hr2) rfl rfl rfl (Nat.le_of_ble_eq_true rfl) rfl (k2 z0)
theorem bBag_join_38 {t : Nat} {r2 : Nat} {a1 : Int32} {a3 : Int32} {a4 : Int32} {w5 : Slot} {w6 : Slot} {s0 : Int32} (hX : X.length = 13) (ht : kBag t) (hr2 : kBag r2) (hw5 : qfr w5) (hw6 : qfr w6) (h1 : (¬ a1 = 45) → inx a4 64) (k2 : (¬ a1 = 45) → QW d mBag_join 71 (lBag_join_71 a1 a3 a4 s0 w6 t r2) [.int (if s0 < (mem (t + 2) (Int32.toNatClampNeg a4)) then s0 else (mem (t + 2) (Int32.toNatClampNeg a4)))] (hpo X mem sw o e) P) (h3 : (a1 = 45) → inx a4 64) (k4 : (a1 = 45) → QW d mBag_join 71 (lBag_join_71 a1 a3 a4 s0 w6 t r2) [.int ((mem (t + 2) (Int32.toNatClampNeg a4)) - s0)] (hpo X mem sw o e) P) : QW d mBag_join 38 (lBag_join_38 a1 a3 a4 w5 w6 t r2) [.int s0] (hpo X mem sw o e) P := by
  show QW d mBag_join 38 [.val (.ref t), .val (.int a1), .val (.ref r2), .val (.int a3), .val (.int a4), w5, w6] [.int s0] (hpo X mem sw o e) P
  refine QW.istore (ls' := [.val (.ref t), .val (.int a1), .val (.ref r2), .val (.int a3), .val (.int a4), .val (.int s0), w6]) dBag_join_38 (by rcases hw5 with z | ⟨_, z⟩ | ⟨_, z⟩ <;> subst z <;> rfl) ?_
  refine QW.iload_n dBag_join_40 rfl rfl ?_
  refine QW.bipush (v := 45) dBag_join_41 (by decide) ?_
  refine QW.icmp_ne (tgt := 59) dBag_join_43 (by decide) (fun z0 => ?_) (fun z0 => ?_)
  · refine QW.aload_n dBag_join_59 rfl rfl ?_
    refine MW.getr (r' := (t + 2)) hX dBag_join_60 fBag_15 (kBag_0 ht) rfl (kBag_s2 ht _) ?_
    refine QW.iload dBag_join_63 rfl ?_
    refine MW.iald hX dBag_join_65 (kBag_2 ht) (h1 z0).1 (rep_get (h1 z0).2) ?_
    refine QW.iload dBag_join_66 rfl ?_
    refine QW.mmin dBag_join_68 q_mnl rfl (Nat.le_of_ble_eq_true rfl) ?_
    exact (k2 z0)
  · refine QW.aload_n dBag_join_46 rfl rfl ?_
    refine MW.getr (r' := (t + 2)) hX dBag_join_47 fBag_15 (kBag_0 ht) rfl (kBag_s2 ht _) ?_
    refine QW.iload dBag_join_50 rfl ?_
    refine MW.iald hX dBag_join_52 (kBag_2 ht) (h3 z0).1 (rep_get (h3 z0).2) ?_
    refine QW.iload dBag_join_53 rfl ?_
    refine QW.isub dBag_join_55 ?_
    refine QW.goto (tgt := 71) dBag_join_56 (by decide) ?_
    exact (k4 z0)
theorem bBag_join_71 {t : Nat} {r2 : Nat} {a1 : Int32} {a3 : Int32} {a4 : Int32} {a5 : Int32} {w6 : Slot} {s0 : Int32} (hX : X.length = 13) (ht : kBag t) (hr2 : kBag r2) (hw6 : qfr w6) (k1 : (s0 ≤ 0) → QW d mBag_join 17 (lBag_join_17 a1 a3 (a4 + 1) (.val (.int a5)) (.val (.int s0)) t r2) [] (hpo X mem sw o e) P) (h2 : (¬ s0 ≤ 0) → ¬ (a4 * 3) < 0) (h3 : (¬ s0 ≤ 0) → ¬ (a3 * 3) < 0) (h4 : (¬ s0 ≤ 0) → ¬ (mem t 0) < 0) (h5 : (¬ s0 ≤ 0) → Int32.toNatClampNeg (a4 * 3) + Int32.toNatClampNeg (mem t 0) ≤ 192) (h6 : (¬ s0 ≤ 0) → Int32.toNatClampNeg (a3 * 3) + Int32.toNatClampNeg (mem t 0) ≤ 192) (h7 : (¬ s0 ≤ 0) → inx a3 64) (k8 : (¬ s0 ≤ 0) → QW d mBag_join 17 (lBag_join_17 a1 (a3 + 1) (a4 + 1) (.val (.int a5)) (.val (.int s0)) t r2) [] (hpo X (mup (mcp mem (t + 1) (t + 1) (Int32.toNatClampNeg (a4 * 3)) (Int32.toNatClampNeg (a3 * 3)) (Int32.toNatClampNeg (mem t 0))) (t + 2) (Int32.toNatClampNeg a3) s0) sw o e) P) : QW d mBag_join 71 (lBag_join_71 a1 a3 a4 a5 w6 t r2) [.int s0] (hpo X mem sw o e) P := by
  show QW d mBag_join 71 [.val (.ref t), .val (.int a1), .val (.ref r2), .val (.int a3), .val (.int a4), .val (.int a5), w6] [.int s0] (hpo X mem sw o e) P
  refine QW.istore (ls' := [.val (.ref t), .val (.int a1), .val (.ref r2), .val (.int a3), .val (.int a4), .val (.int a5), .val (.int s0)]) dBag_join_71 (by rcases hw6 with z | ⟨_, z⟩ | ⟨_, z⟩ <;> subst z <;> rfl) ?_
  refine QW.iload dBag_join_73 rfl ?_
  refine QW.if_le (tgt := 111) dBag_join_75 (by decide) (fun z0 => ?_) (fun z0 => ?_)
  · refine MW.iinc (c := 1) (ls' := [.val (.ref t), .val (.int a1), .val (.ref r2), .val (.int a3), .val (.int (a4 + 1)), .val (.int a5), .val (.int s0)]) dBag_join_111 (by decide) rfl rfl ?_
    refine QW.goto (tgt := 17) dBag_join_114 (by decide) ?_
    exact (k1 z0)
  · refine QW.aload_n dBag_join_78 rfl rfl ?_
    refine MW.getr (r' := (t + 1)) hX dBag_join_79 fBag_9 (kBag_0 ht) rfl (kBag_s1 ht _) ?_
    refine QW.iload dBag_join_82 rfl ?_
    refine QW.iconst (v := 3) dBag_join_84 (by decide) ?_
    refine QW.imul dBag_join_85 ?_
    refine QW.aload_n dBag_join_86 rfl rfl ?_
    refine MW.getr (r' := (t + 1)) hX dBag_join_87 fBag_9 (kBag_0 ht) rfl (kBag_s1 ht _) ?_
    refine QW.iload_n dBag_join_90 rfl rfl ?_
    refine QW.iconst (v := 3) dBag_join_91 (by decide) ?_
    refine QW.imul dBag_join_92 ?_
    refine QW.aload_n dBag_join_93 rfl rfl ?_
    refine MW.geti hX dBag_join_94 fBag_18 (kBag_0 ht) rfl ?_
    refine MW.copy hX dBag_join_97 q_acB (kBag_1 ht) (kBag_1 ht) (h2 z0) (h3 z0) (h4 z0) (h5 z0) (h6 z0) rfl (Nat.le_of_ble_eq_true rfl) ?_
    refine QW.aload_n dBag_join_100 rfl rfl ?_
    refine MW.getr (r' := (t + 2)) hX dBag_join_101 fBag_15 (kBag_0 ht) rfl (kBag_s2 ht _) ?_
    refine QW.iload_n dBag_join_104 rfl rfl ?_
    refine QW.iload dBag_join_105 rfl ?_
    refine MW.iast hX dBag_join_107 (kBag_2 ht) (h7 z0).1 (rep_get (h7 z0).2) ?_
    refine MW.iinc (c := 1) (ls' := [.val (.ref t), .val (.int a1), .val (.ref r2), .val (.int (a3 + 1)), .val (.int a4), .val (.int a5), .val (.int s0)]) dBag_join_108 (by decide) rfl rfl ?_
    refine MW.iinc (c := 1) (ls' := [.val (.ref t), .val (.int a1), .val (.ref r2), .val (.int (a3 + 1)), .val (.int (a4 + 1)), .val (.int a5), .val (.int s0)]) dBag_join_111 (by decide) rfl rfl ?_
    refine QW.goto (tgt := 17) dBag_join_114 (by decide) ?_
    exact (k8 z0)
theorem dPlan_findLastSources_0 : decode mPlan_findLastSources.2.1 0 = .ok (.iconst 0, 1) := by decide +kernel
theorem dPlan_findLastSources_1 : decode mPlan_findLastSources.2.1 1 = .ok (.istore_n 2, 1) := by decide +kernel
theorem dPlan_findLastSources_2 : decode mPlan_findLastSources.2.1 2 = .ok (.iload_n 2, 1) := by decide +kernel
theorem dPlan_findLastSources_3 : decode mPlan_findLastSources.2.1 3 = .ok (.aload_n 1, 1) := by decide +kernel
theorem dPlan_findLastSources_4 : decode mPlan_findLastSources.2.1 4 = .ok (.getfield 66, 3) := by decide +kernel
theorem dPlan_findLastSources_7 : decode mPlan_findLastSources.2.1 7 = .ok (.if_icmp .ge 36, 3) := by decide +kernel
theorem dPlan_findLastSources_10 : decode mPlan_findLastSources.2.1 10 = .ok (.aload_n 0, 1) := by decide +kernel
theorem dPlan_findLastSources_11 : decode mPlan_findLastSources.2.1 11 = .ok (.getfield 19, 3) := by decide +kernel
theorem dPlan_findLastSources_14 : decode mPlan_findLastSources.2.1 14 = .ok (.iload_n 2, 1) := by decide +kernel
theorem dPlan_findLastSources_15 : decode mPlan_findLastSources.2.1 15 = .ok (.aload_n 1, 1) := by decide +kernel
theorem dPlan_findLastSources_16 : decode mPlan_findLastSources.2.1 16 = .ok (.getfield 63, 3) := by decide +kernel
theorem dPlan_findLastSources_19 : decode mPlan_findLastSources.2.1 19 = .ok (.iload_n 2, 1) := by decide +kernel
theorem dPlan_findLastSources_20 : decode mPlan_findLastSources.2.1 20 = .ok (.invokestatic 69, 3) := by decide +kernel
theorem dPlan_findLastSources_23 : decode mPlan_findLastSources.2.1 23 = .ok (.iaload, 1) := by decide +kernel
theorem dPlan_findLastSources_24 : decode mPlan_findLastSources.2.1 24 = .ok (.aload_n 1, 1) := by decide +kernel
theorem dPlan_findLastSources_25 : decode mPlan_findLastSources.2.1 25 = .ok (.getfield 63, 3) := by decide +kernel
theorem dPlan_findLastSources_28 : decode mPlan_findLastSources.2.1 28 = .ok (.iload_n 2, 1) := by decide +kernel
theorem dPlan_findLastSources_29 : decode mPlan_findLastSources.2.1 29 = .ok (.invokestatic 73, 3) := by decide +kernel
theorem dPlan_findLastSources_32 : decode mPlan_findLastSources.2.1 32 = .ok (.iaload, 1) := by decide +kernel
theorem dPlan_findLastSources_33 : decode mPlan_findLastSources.2.1 33 = .ok (.invokestatic 76, 3) := by decide +kernel
theorem dPlan_findLastSources_36 : decode mPlan_findLastSources.2.1 36 = .ok (.iastore, 1) := by decide +kernel
theorem dPlan_findLastSources_37 : decode mPlan_findLastSources.2.1 37 = .ok (.iinc 2 1, 3) := by decide +kernel
theorem dPlan_findLastSources_40 : decode mPlan_findLastSources.2.1 40 = .ok (.goto (-38), 3) := by decide +kernel
theorem dPlan_findLastSources_43 : decode mPlan_findLastSources.2.1 43 = .ok (.return_, 1) := by decide +kernel
def lPlan_findLastSources_2 (a2 : Int32) (r1 : Nat) : List Slot := [.val (.ref 156), .val (.ref r1), .val (.int a2)]
def lPlan_findLastSources_23 (a2 : Int32) (r1 : Nat) : List Slot := [.val (.ref 156), .val (.ref r1), .val (.int a2)]
def lPlan_findLastSources_32 (a2 : Int32) (r1 : Nat) : List Slot := [.val (.ref 156), .val (.ref r1), .val (.int a2)]
theorem bPlan_findLastSources_0 {r1 : Nat} (hX : X.length = 13) (hr1 : kBl r1) (k1 : QW d mPlan_findLastSources 2 (lPlan_findLastSources_2 0 r1) [] (hpo X mem sw o e) P) : QW d mPlan_findLastSources 0 (qen 3 [.ref 156, .ref r1]) [] (hpo X mem sw o e) P := by
  show QW d mPlan_findLastSources 0 [.val (.ref 156), .val (.ref r1), .unset] [] (hpo X mem sw o e) P
  refine QW.iconst (v := 0) dPlan_findLastSources_0 (by decide) ?_
  refine QW.istore_n (ls' := [.val (.ref 156), .val (.ref r1), .val (.int 0)]) dPlan_findLastSources_1 rfl rfl ?_
  exact k1
theorem bPlan_findLastSources_2 {r1 : Nat} {a2 : Int32} (hX : X.length = 13) (hr1 : kBl r1) (k1 : ((mem r1 3) ≤ a2) → P (.inl none, (hpo X mem sw o e))) (k2 : (¬ (mem r1 3) ≤ a2) → QW d mBl_lowSlot 0 (qen 1 [.int a2]) [] (hpo X mem sw o e) (qcl d mPlan_findLastSources 20 23 (lPlan_findLastSources_23 a2 r1) [.ref (r1 + 5), .int a2, .ref 159] P)) : QW (d + 1) mPlan_findLastSources 2 (lPlan_findLastSources_2 a2 r1) [] (hpo X mem sw o e) P := by
  show QW (d + 1) mPlan_findLastSources 2 [.val (.ref 156), .val (.ref r1), .val (.int a2)] [] (hpo X mem sw o e) P
  refine QW.iload_n dPlan_findLastSources_2 rfl rfl ?_
  refine QW.aload_n dPlan_findLastSources_3 rfl rfl ?_
  refine MW.geti hX dPlan_findLastSources_4 fPlan_66 (kBl_0 hr1) rfl ?_
  refine QW.icmp_ge (tgt := 43) dPlan_findLastSources_7 (by decide) (fun z0 => ?_) (fun z0 => ?_)
  · exact QW.vret dPlan_findLastSources_43 rfl (k1 z0)
  · refine QW.aload_n dPlan_findLastSources_10 rfl rfl ?_
    refine MW.getr (r' := 159) hX dPlan_findLastSources_11 fPlan_19 rfl rfl (by cases sw <;> rfl) ?_
    refine QW.iload_n dPlan_findLastSources_14 rfl rfl ?_
    refine QW.aload_n dPlan_findLastSources_15 rfl rfl ?_
    refine MW.getr (r' := (r1 + 5)) hX dPlan_findLastSources_16 fPlan_63 (kBl_0 hr1) rfl (kBl_s5 hr1 _) ?_
    refine QW.iload_n dPlan_findLastSources_19 rfl rfl ?_
    exact MW.calS (as := [.int a2]) (rest := [.ref (r1 + 5), .int a2, .ref 159]) dPlan_findLastSources_20 eBl_lowSlot lPlan_69 sBl_lowSlot rfl rfl rfl (Nat.le_of_ble_eq_true rfl) rfl (k2 z0)
theorem bPlan_findLastSources_23 {r1 : Nat} {a2 : Int32} {s3 : Int32} {s1 : Int32} (hX : X.length = 13) (hr1 : kBl r1) (h1 : inx s3 15) (k2 : QW d mBl_highSlot 0 (qen 1 [.int a2]) [] (hpo X mem sw o e) (qcl d mPlan_findLastSources 29 32 (lPlan_findLastSources_32 a2 r1) [.ref (r1 + 5), .int (mem (r1 + 5) (Int32.toNatClampNeg s3)), .int s1, .ref 159] P)) : QW (d + 1) mPlan_findLastSources 23 (lPlan_findLastSources_23 a2 r1) [.int s3, .ref (r1 + 5), .int s1, .ref 159] (hpo X mem sw o e) P := by
  show QW (d + 1) mPlan_findLastSources 23 [.val (.ref 156), .val (.ref r1), .val (.int a2)] [.int s3, .ref (r1 + 5), .int s1, .ref 159] (hpo X mem sw o e) P
  refine MW.iald hX dPlan_findLastSources_23 (kBl_5 hr1) h1.1 (rep_get h1.2) ?_
  refine QW.aload_n dPlan_findLastSources_24 rfl rfl ?_
  refine MW.getr (r' := (r1 + 5)) hX dPlan_findLastSources_25 fPlan_63 (kBl_0 hr1) rfl (kBl_s5 hr1 _) ?_
  refine QW.iload_n dPlan_findLastSources_28 rfl rfl ?_
  exact MW.calS (as := [.int a2]) (rest := [.ref (r1 + 5), .int (mem (r1 + 5) (Int32.toNatClampNeg s3)), .int s1, .ref 159]) dPlan_findLastSources_29 eBl_highSlot lPlan_73 sBl_highSlot rfl rfl rfl (Nat.le_of_ble_eq_true rfl) rfl k2
theorem bPlan_findLastSources_32 {r1 : Nat} {a2 : Int32} {s4 : Int32} {s2 : Int32} {s1 : Int32} (hX : X.length = 13) (hr1 : kBl r1) (h1 : inx s4 15) (h2 : inx s1 6) (k3 : QW d mPlan_findLastSources 2 (lPlan_findLastSources_2 (a2 + 1) r1) [] (hpo X (mup mem 159 (Int32.toNatClampNeg s1) (if s2 < (mem (r1 + 5) (Int32.toNatClampNeg s4)) then (mem (r1 + 5) (Int32.toNatClampNeg s4)) else s2)) sw o e) P) : QW d mPlan_findLastSources 32 (lPlan_findLastSources_32 a2 r1) [.int s4, .ref (r1 + 5), .int s2, .int s1, .ref 159] (hpo X mem sw o e) P := by
  show QW d mPlan_findLastSources 32 [.val (.ref 156), .val (.ref r1), .val (.int a2)] [.int s4, .ref (r1 + 5), .int s2, .int s1, .ref 159] (hpo X mem sw o e) P
  refine MW.iald hX dPlan_findLastSources_32 (kBl_5 hr1) h1.1 (rep_get h1.2) ?_
  refine QW.mmax dPlan_findLastSources_33 q_mxl rfl (Nat.le_of_ble_eq_true rfl) ?_
  refine MW.iast hX dPlan_findLastSources_36 rfl h2.1 (rep_get h2.2) ?_
  refine MW.iinc (c := 1) (ls' := [.val (.ref 156), .val (.ref r1), .val (.int (a2 + 1))]) dPlan_findLastSources_37 (by decide) rfl rfl ?_
  refine QW.goto (tgt := 2) dPlan_findLastSources_40 (by decide) ?_
  exact k3
theorem dMo_write_0 : decode mMo_write.2.1 0 = .ok (.aload_n 0, 1) := by decide +kernel
theorem dMo_write_1 : decode mMo_write.2.1 1 = .ok (.iconst 0, 1) := by decide +kernel
theorem dMo_write_2 : decode mMo_write.2.1 2 = .ok (.putfield 106, 3) := by decide +kernel
theorem dMo_write_5 : decode mMo_write.2.1 5 = .ok (.iconst 0, 1) := by decide +kernel
theorem dMo_write_6 : decode mMo_write.2.1 6 = .ok (.istore_n 3, 1) := by decide +kernel
theorem dMo_write_7 : decode mMo_write.2.1 7 = .ok (.iconst 0, 1) := by decide +kernel
theorem dMo_write_8 : decode mMo_write.2.1 8 = .ok (.istore 4, 2) := by decide +kernel
theorem dMo_write_10 : decode mMo_write.2.1 10 = .ok (.iload 4, 2) := by decide +kernel
theorem dMo_write_12 : decode mMo_write.2.1 12 = .ok (.bipush 8, 2) := by decide +kernel
theorem dMo_write_14 : decode mMo_write.2.1 14 = .ok (.if_icmp .ge 57, 3) := by decide +kernel
theorem dMo_write_17 : decode mMo_write.2.1 17 = .ok (.lload_n 1, 1) := by decide +kernel
theorem dMo_write_18 : decode mMo_write.2.1 18 = .ok (.bipush 8, 2) := by decide +kernel
theorem dMo_write_20 : decode mMo_write.2.1 20 = .ok (.iload 4, 2) := by decide +kernel
theorem dMo_write_22 : decode mMo_write.2.1 22 = .ok (.imul, 1) := by decide +kernel
theorem dMo_write_23 : decode mMo_write.2.1 23 = .ok (.lushr, 1) := by decide +kernel
theorem dMo_write_24 : decode mMo_write.2.1 24 = .ok (.ldc2_w 120, 3) := by decide +kernel
theorem dMo_write_27 : decode mMo_write.2.1 27 = .ok (.land, 1) := by decide +kernel
theorem dMo_write_28 : decode mMo_write.2.1 28 = .ok (.l2i, 1) := by decide +kernel
theorem dMo_write_29 : decode mMo_write.2.1 29 = .ok (.istore 5, 2) := by decide +kernel
theorem dMo_write_31 : decode mMo_write.2.1 31 = .ok (.iload 5, 2) := by decide +kernel
theorem dMo_write_33 : decode mMo_write.2.1 33 = .ok (.ifCond .eq 19, 3) := by decide +kernel
theorem dMo_write_36 : decode mMo_write.2.1 36 = .ok (.iload 5, 2) := by decide +kernel
theorem dMo_write_38 : decode mMo_write.2.1 38 = .ok (.bipush 32, 2) := by decide +kernel
theorem dMo_write_40 : decode mMo_write.2.1 40 = .ok (.if_icmp .lt 10, 3) := by decide +kernel
theorem dMo_write_43 : decode mMo_write.2.1 43 = .ok (.iload 5, 2) := by decide +kernel
theorem dMo_write_45 : decode mMo_write.2.1 45 = .ok (.bipush 126, 2) := by decide +kernel
theorem dMo_write_47 : decode mMo_write.2.1 47 = .ok (.if_icmp .le 5, 3) := by decide +kernel
theorem dMo_write_50 : decode mMo_write.2.1 50 = .ok (.iconst 0, 1) := by decide +kernel
theorem dMo_write_51 : decode mMo_write.2.1 51 = .ok (.ireturn, 1) := by decide +kernel
theorem dMo_write_52 : decode mMo_write.2.1 52 = .ok (.iload_n 3, 1) := by decide +kernel
theorem dMo_write_53 : decode mMo_write.2.1 53 = .ok (.iload 5, 2) := by decide +kernel
theorem dMo_write_55 : decode mMo_write.2.1 55 = .ok (.ifCond .ne 7, 3) := by decide +kernel
theorem dMo_write_58 : decode mMo_write.2.1 58 = .ok (.iconst 0, 1) := by decide +kernel
theorem dMo_write_59 : decode mMo_write.2.1 59 = .ok (.goto 4, 3) := by decide +kernel
theorem dMo_write_62 : decode mMo_write.2.1 62 = .ok (.iconst 1, 1) := by decide +kernel
theorem dMo_write_63 : decode mMo_write.2.1 63 = .ok (.iadd, 1) := by decide +kernel
theorem dMo_write_64 : decode mMo_write.2.1 64 = .ok (.istore_n 3, 1) := by decide +kernel
theorem dMo_write_65 : decode mMo_write.2.1 65 = .ok (.iinc 4 1, 3) := by decide +kernel
theorem dMo_write_68 : decode mMo_write.2.1 68 = .ok (.goto (-58), 3) := by decide +kernel
theorem dMo_write_71 : decode mMo_write.2.1 71 = .ok (.aload_n 0, 1) := by decide +kernel
theorem dMo_write_72 : decode mMo_write.2.1 72 = .ok (.getfield 122, 3) := by decide +kernel
theorem dMo_write_75 : decode mMo_write.2.1 75 = .ok (.iload_n 3, 1) := by decide +kernel
theorem dMo_write_76 : decode mMo_write.2.1 76 = .ok (.iadd, 1) := by decide +kernel
theorem dMo_write_77 : decode mMo_write.2.1 77 = .ok (.sipush 200, 3) := by decide +kernel
theorem dMo_write_80 : decode mMo_write.2.1 80 = .ok (.if_icmp .le 5, 3) := by decide +kernel
theorem dMo_write_83 : decode mMo_write.2.1 83 = .ok (.iconst 0, 1) := by decide +kernel
theorem dMo_write_84 : decode mMo_write.2.1 84 = .ok (.ireturn, 1) := by decide +kernel
theorem dMo_write_85 : decode mMo_write.2.1 85 = .ok (.iconst 0, 1) := by decide +kernel
theorem dMo_write_86 : decode mMo_write.2.1 86 = .ok (.istore 4, 2) := by decide +kernel
theorem dMo_write_88 : decode mMo_write.2.1 88 = .ok (.iload 4, 2) := by decide +kernel
theorem dMo_write_90 : decode mMo_write.2.1 90 = .ok (.bipush 8, 2) := by decide +kernel
theorem dMo_write_92 : decode mMo_write.2.1 92 = .ok (.if_icmp .ge 50, 3) := by decide +kernel
theorem dMo_write_95 : decode mMo_write.2.1 95 = .ok (.lload_n 1, 1) := by decide +kernel
theorem dMo_write_96 : decode mMo_write.2.1 96 = .ok (.bipush 8, 2) := by decide +kernel
theorem dMo_write_98 : decode mMo_write.2.1 98 = .ok (.iload 4, 2) := by decide +kernel
theorem dMo_write_100 : decode mMo_write.2.1 100 = .ok (.imul, 1) := by decide +kernel
theorem dMo_write_101 : decode mMo_write.2.1 101 = .ok (.lushr, 1) := by decide +kernel
theorem dMo_write_102 : decode mMo_write.2.1 102 = .ok (.ldc2_w 120, 3) := by decide +kernel
theorem dMo_write_105 : decode mMo_write.2.1 105 = .ok (.land, 1) := by decide +kernel
theorem dMo_write_106 : decode mMo_write.2.1 106 = .ok (.l2i, 1) := by decide +kernel
theorem dMo_write_107 : decode mMo_write.2.1 107 = .ok (.istore 5, 2) := by decide +kernel
theorem dMo_write_109 : decode mMo_write.2.1 109 = .ok (.iload 5, 2) := by decide +kernel
theorem dMo_write_111 : decode mMo_write.2.1 111 = .ok (.ifCond .eq 25, 3) := by decide +kernel
theorem dMo_write_114 : decode mMo_write.2.1 114 = .ok (.aload_n 0, 1) := by decide +kernel
theorem dMo_write_115 : decode mMo_write.2.1 115 = .ok (.getfield 23, 3) := by decide +kernel
theorem dMo_write_118 : decode mMo_write.2.1 118 = .ok (.aload_n 0, 1) := by decide +kernel
theorem dMo_write_119 : decode mMo_write.2.1 119 = .ok (.getfield 122, 3) := by decide +kernel
theorem dMo_write_122 : decode mMo_write.2.1 122 = .ok (.iload 5, 2) := by decide +kernel
theorem dMo_write_124 : decode mMo_write.2.1 124 = .ok (.i2c, 1) := by decide +kernel
theorem dMo_write_125 : decode mMo_write.2.1 125 = .ok (.castore, 1) := by decide +kernel
theorem dMo_write_126 : decode mMo_write.2.1 126 = .ok (.aload_n 0, 1) := by decide +kernel
theorem dMo_write_127 : decode mMo_write.2.1 127 = .ok (.dup, 1) := by decide +kernel
theorem dMo_write_128 : decode mMo_write.2.1 128 = .ok (.getfield 122, 3) := by decide +kernel
theorem dMo_write_131 : decode mMo_write.2.1 131 = .ok (.iconst 1, 1) := by decide +kernel
theorem dMo_write_132 : decode mMo_write.2.1 132 = .ok (.iadd, 1) := by decide +kernel
theorem dMo_write_133 : decode mMo_write.2.1 133 = .ok (.putfield 122, 3) := by decide +kernel
theorem dMo_write_136 : decode mMo_write.2.1 136 = .ok (.iinc 4 1, 3) := by decide +kernel
theorem dMo_write_139 : decode mMo_write.2.1 139 = .ok (.goto (-51), 3) := by decide +kernel
theorem dMo_write_142 : decode mMo_write.2.1 142 = .ok (.iconst 1, 1) := by decide +kernel
theorem dMo_write_143 : decode mMo_write.2.1 143 = .ok (.ireturn, 1) := by decide +kernel
def lMo_write_10 (a1 : Int64) (a3 : Int32) (a4 : Int32) (w5 : Slot) : List Slot := [.val (.ref 193), .val (.long a1), .second, .val (.int a3), .val (.int a4), w5]
def lMo_write_52 (a1 : Int64) (a3 : Int32) (a4 : Int32) (a5 : Int32) : List Slot := [.val (.ref 193), .val (.long a1), .second, .val (.int a3), .val (.int a4), .val (.int a5)]
def lMo_write_63 (a1 : Int64) (a3 : Int32) (a4 : Int32) (a5 : Int32) : List Slot := [.val (.ref 193), .val (.long a1), .second, .val (.int a3), .val (.int a4), .val (.int a5)]
def lMo_write_88 (a1 : Int64) (a3 : Int32) (a4 : Int32) (w5 : Slot) : List Slot := [.val (.ref 193), .val (.long a1), .second, .val (.int a3), .val (.int a4), w5]
theorem bMo_write_0 {a1 : Int64} (hX : X.length = 13) (k1 : QW d mMo_write 10 (lMo_write_10 a1 0 0 .unset) [] (hpo X (mup mem 193 0 0) sw o e) P) : QW d mMo_write 0 (qen 6 [.ref 193, .long a1]) [] (hpo X mem sw o e) P := by
  show QW d mMo_write 0 [.val (.ref 193), .val (.long a1), .second, .unset, .unset, .unset] [] (hpo X mem sw o e) P
  refine QW.aload_n dMo_write_0 rfl rfl ?_
  refine QW.iconst (v := 0) dMo_write_1 (by decide) ?_
  refine MW.puti hX dMo_write_2 fMo_106 rfl rfl rfl ?_
  refine QW.iconst (v := 0) dMo_write_5 (by decide) ?_
  refine QW.istore_n (ls' := [.val (.ref 193), .val (.long a1), .second, .val (.int 0), .unset, .unset]) dMo_write_6 rfl rfl ?_
  refine QW.iconst (v := 0) dMo_write_7 (by decide) ?_
  refine QW.istore (ls' := [.val (.ref 193), .val (.long a1), .second, .val (.int 0), .val (.int 0), .unset]) dMo_write_8 rfl ?_
  exact k1
theorem bMo_write_10 {a1 : Int64} {a3 : Int32} {a4 : Int32} {w5 : Slot} (hX : X.length = 13) (hw5 : qfr w5) (k1 : (8 ≤ a4) → (((mem 193 6) + a3) ≤ 200) → QW d mMo_write 88 (lMo_write_88 a1 a3 0 w5) [] (hpo X mem sw o e) P) (k2 : (8 ≤ a4) → (¬ ((mem 193 6) + a3) ≤ 200) → P (.inl (some (.int 0)), (hpo X mem sw o e))) (k3 : (¬ 8 ≤ a4) → ((Int64.toInt32 (((Int64.toUInt64 a1 >>> ((Int32.toInt64 (8 * a4)).toUInt64 &&& Int64.toUInt64 63)).toInt64) &&& 255)) = 0) → QW d mMo_write 52 (lMo_write_52 a1 a3 a4 (Int64.toInt32 (((Int64.toUInt64 a1 >>> ((Int32.toInt64 (8 * a4)).toUInt64 &&& Int64.toUInt64 63)).toInt64) &&& 255))) [] (hpo X mem sw o e) P) (k4 : (¬ 8 ≤ a4) → (¬ (Int64.toInt32 (((Int64.toUInt64 a1 >>> ((Int32.toInt64 (8 * a4)).toUInt64 &&& Int64.toUInt64 63)).toInt64) &&& 255)) = 0) → ((Int64.toInt32 (((Int64.toUInt64 a1 >>> ((Int32.toInt64 (8 * a4)).toUInt64 &&& Int64.toUInt64 63)).toInt64) &&& 255)) < 32) → P (.inl (some (.int 0)), (hpo X mem sw o e))) (k5 : (¬ 8 ≤ a4) → (¬ (Int64.toInt32 (((Int64.toUInt64 a1 >>> ((Int32.toInt64 (8 * a4)).toUInt64 &&& Int64.toUInt64 63)).toInt64) &&& 255)) = 0) → (¬ (Int64.toInt32 (((Int64.toUInt64 a1 >>> ((Int32.toInt64 (8 * a4)).toUInt64 &&& Int64.toUInt64 63)).toInt64) &&& 255)) < 32) → ((Int64.toInt32 (((Int64.toUInt64 a1 >>> ((Int32.toInt64 (8 * a4)).toUInt64 &&& Int64.toUInt64 63)).toInt64) &&& 255)) ≤ 126) → QW d mMo_write 52 (lMo_write_52 a1 a3 a4 (Int64.toInt32 (((Int64.toUInt64 a1 >>> ((Int32.toInt64 (8 * a4)).toUInt64 &&& Int64.toUInt64 63)).toInt64) &&& 255))) [] (hpo X mem sw o e) P) (k6 : (¬ 8 ≤ a4) → (¬ (Int64.toInt32 (((Int64.toUInt64 a1 >>> ((Int32.toInt64 (8 * a4)).toUInt64 &&& Int64.toUInt64 63)).toInt64) &&& 255)) = 0) → (¬ (Int64.toInt32 (((Int64.toUInt64 a1 >>> ((Int32.toInt64 (8 * a4)).toUInt64 &&& Int64.toUInt64 63)).toInt64) &&& 255)) < 32) → (¬ (Int64.toInt32 (((Int64.toUInt64 a1 >>> ((Int32.toInt64 (8 * a4)).toUInt64 &&& Int64.toUInt64 63)).toInt64) &&& 255)) ≤ 126) → P (.inl (some (.int 0)), (hpo X mem sw o e))) : QW d mMo_write 10 (lMo_write_10 a1 a3 a4 w5) [] (hpo X mem sw o e) P := by
  show QW d mMo_write 10 [.val (.ref 193), .val (.long a1), .second, .val (.int a3), .val (.int a4), w5] [] (hpo X mem sw o e) P
  refine QW.iload dMo_write_10 rfl ?_
  refine QW.bipush (v := 8) dMo_write_12 (by decide) ?_
  refine QW.icmp_ge (tgt := 71) dMo_write_14 (by decide) (fun z0 => ?_) (fun z0 => ?_)
  · refine QW.aload_n dMo_write_71 rfl rfl ?_
    refine MW.geti hX dMo_write_72 fMo_122 rfl rfl ?_
    refine QW.iload_n dMo_write_75 rfl rfl ?_
    refine QW.iadd dMo_write_76 ?_
    refine QW.sipush (v := 200) dMo_write_77 (by decide) ?_
    refine QW.icmp_le (tgt := 85) dMo_write_80 (by decide) (fun z1 => ?_) (fun z1 => ?_)
    · refine QW.iconst (v := 0) dMo_write_85 (by decide) ?_
      refine QW.istore (ls' := [.val (.ref 193), .val (.long a1), .second, .val (.int a3), .val (.int 0), w5]) dMo_write_86 rfl ?_
      exact (k1 z0 z1)
    · refine QW.iconst (v := 0) dMo_write_83 (by decide) ?_
      exact QW.iret dMo_write_84 rfl rfl (k2 z0 z1)
  · refine QW.lload_n dMo_write_17 rfl rfl ?_
    refine QW.bipush (v := 8) dMo_write_18 (by decide) ?_
    refine QW.iload dMo_write_20 rfl ?_
    refine QW.imul dMo_write_22 ?_
    refine QW.lushr dMo_write_23 ?_
    refine QW.ldc2 (v := 255) dMo_write_24 q_clM ?_
    refine QW.land dMo_write_27 ?_
    refine QW.l2i dMo_write_28 ?_
    refine QW.istore (ls' := [.val (.ref 193), .val (.long a1), .second, .val (.int a3), .val (.int a4), .val (.int (Int64.toInt32 (((Int64.toUInt64 a1 >>> ((Int32.toInt64 (8 * a4)).toUInt64 &&& Int64.toUInt64 63)).toInt64) &&& 255)))]) dMo_write_29 (by rcases hw5 with z | ⟨_, z⟩ | ⟨_, z⟩ <;> subst z <;> rfl) ?_
    refine QW.iload dMo_write_31 rfl ?_
    refine QW.if_eq (tgt := 52) dMo_write_33 (by decide) (fun z1 => ?_) (fun z1 => ?_)
    · exact (k3 z0 z1)
    · refine QW.iload dMo_write_36 rfl ?_
      refine QW.bipush (v := 32) dMo_write_38 (by decide) ?_
      refine QW.icmp_lt (tgt := 50) dMo_write_40 (by decide) (fun z2 => ?_) (fun z2 => ?_)
      · refine QW.iconst (v := 0) dMo_write_50 (by decide) ?_
        exact QW.iret dMo_write_51 rfl rfl (k4 z0 z1 z2)
      · refine QW.iload dMo_write_43 rfl ?_
        refine QW.bipush (v := 126) dMo_write_45 (by decide) ?_
        refine QW.icmp_le (tgt := 52) dMo_write_47 (by decide) (fun z3 => ?_) (fun z3 => ?_)
        · exact (k5 z0 z1 z2 z3)
        · refine QW.iconst (v := 0) dMo_write_50 (by decide) ?_
          exact QW.iret dMo_write_51 rfl rfl (k6 z0 z1 z2 z3)
theorem bMo_write_52 {a1 : Int64} {a3 : Int32} {a4 : Int32} {a5 : Int32} (hX : X.length = 13) (k1 : (¬ a5 = 0) → QW d mMo_write 63 (lMo_write_63 a1 a3 a4 a5) [.int 1, .int a3] (hpo X mem sw o e) P) (k2 : (a5 = 0) → QW d mMo_write 63 (lMo_write_63 a1 a3 a4 a5) [.int 0, .int a3] (hpo X mem sw o e) P) : QW d mMo_write 52 (lMo_write_52 a1 a3 a4 a5) [] (hpo X mem sw o e) P := by
  show QW d mMo_write 52 [.val (.ref 193), .val (.long a1), .second, .val (.int a3), .val (.int a4), .val (.int a5)] [] (hpo X mem sw o e) P
  refine QW.iload_n dMo_write_52 rfl rfl ?_
  refine QW.iload dMo_write_53 rfl ?_
  refine QW.if_ne (tgt := 62) dMo_write_55 (by decide) (fun z0 => ?_) (fun z0 => ?_)
  · refine QW.iconst (v := 1) dMo_write_62 (by decide) ?_
    exact (k1 z0)
  · refine QW.iconst (v := 0) dMo_write_58 (by decide) ?_
    refine QW.goto (tgt := 63) dMo_write_59 (by decide) ?_
    exact (k2 z0)
theorem bMo_write_63 {a1 : Int64} {a3 : Int32} {a4 : Int32} {a5 : Int32} {s1 : Int32} {s0 : Int32} (hX : X.length = 13) (k1 : QW d mMo_write 10 (lMo_write_10 a1 (s0 + s1) (a4 + 1) (.val (.int a5))) [] (hpo X mem sw o e) P) : QW d mMo_write 63 (lMo_write_63 a1 a3 a4 a5) [.int s1, .int s0] (hpo X mem sw o e) P := by
  show QW d mMo_write 63 [.val (.ref 193), .val (.long a1), .second, .val (.int a3), .val (.int a4), .val (.int a5)] [.int s1, .int s0] (hpo X mem sw o e) P
  refine QW.iadd dMo_write_63 ?_
  refine QW.istore_n (ls' := [.val (.ref 193), .val (.long a1), .second, .val (.int (s0 + s1)), .val (.int a4), .val (.int a5)]) dMo_write_64 rfl rfl ?_
  refine MW.iinc (c := 1) (ls' := [.val (.ref 193), .val (.long a1), .second, .val (.int (s0 + s1)), .val (.int (a4 + 1)), .val (.int a5)]) dMo_write_65 (by decide) rfl rfl ?_
  refine QW.goto (tgt := 10) dMo_write_68 (by decide) ?_
  exact k1
theorem bMo_write_88 {a1 : Int64} {a3 : Int32} {a4 : Int32} {w5 : Slot} (hX : X.length = 13) (hw5 : qfr w5) (k1 : (8 ≤ a4) → P (.inl (some (.int 1)), (hpo X mem sw o e))) (k2 : (¬ 8 ≤ a4) → ((Int64.toInt32 (((Int64.toUInt64 a1 >>> ((Int32.toInt64 (8 * a4)).toUInt64 &&& Int64.toUInt64 63)).toInt64) &&& 255)) = 0) → QW d mMo_write 88 (lMo_write_88 a1 a3 (a4 + 1) (.val (.int (Int64.toInt32 (((Int64.toUInt64 a1 >>> ((Int32.toInt64 (8 * a4)).toUInt64 &&& Int64.toUInt64 63)).toInt64) &&& 255))))) [] (hpo X mem sw o e) P) (h3 : (¬ 8 ≤ a4) → (¬ (Int64.toInt32 (((Int64.toUInt64 a1 >>> ((Int32.toInt64 (8 * a4)).toUInt64 &&& Int64.toUInt64 63)).toInt64) &&& 255)) = 0) → inx (mem 193 6) 200) (h4 : (¬ 8 ≤ a4) → (¬ (Int64.toInt32 (((Int64.toUInt64 a1 >>> ((Int32.toInt64 (8 * a4)).toUInt64 &&& Int64.toUInt64 63)).toInt64) &&& 255)) = 0) → narrow .char (.int ((Int32.toUInt32 (Int64.toInt32 (((Int64.toUInt64 a1 >>> ((Int32.toInt64 (8 * a4)).toUInt64 &&& Int64.toUInt64 63)).toInt64) &&& 255)) % 65536).toInt32)) = .int ((Int32.toUInt32 (Int64.toInt32 (((Int64.toUInt64 a1 >>> ((Int32.toInt64 (8 * a4)).toUInt64 &&& Int64.toUInt64 63)).toInt64) &&& 255)) % 65536).toInt32)) (k5 : (¬ 8 ≤ a4) → (¬ (Int64.toInt32 (((Int64.toUInt64 a1 >>> ((Int32.toInt64 (8 * a4)).toUInt64 &&& Int64.toUInt64 63)).toInt64) &&& 255)) = 0) → QW d mMo_write 88 (lMo_write_88 a1 a3 (a4 + 1) (.val (.int (Int64.toInt32 (((Int64.toUInt64 a1 >>> ((Int32.toInt64 (8 * a4)).toUInt64 &&& Int64.toUInt64 63)).toInt64) &&& 255))))) [] (hpo X (mup (mup mem 198 (Int32.toNatClampNeg (mem 193 6)) ((Int32.toUInt32 (Int64.toInt32 (((Int64.toUInt64 a1 >>> ((Int32.toInt64 (8 * a4)).toUInt64 &&& Int64.toUInt64 63)).toInt64) &&& 255)) % 65536).toInt32)) 193 6 (((mup mem 198 (Int32.toNatClampNeg (mem 193 6)) ((Int32.toUInt32 (Int64.toInt32 (((Int64.toUInt64 a1 >>> ((Int32.toInt64 (8 * a4)).toUInt64 &&& Int64.toUInt64 63)).toInt64) &&& 255)) % 65536).toInt32)) 193 6) + 1)) sw o e) P) : QW d mMo_write 88 (lMo_write_88 a1 a3 a4 w5) [] (hpo X mem sw o e) P := by
  show QW d mMo_write 88 [.val (.ref 193), .val (.long a1), .second, .val (.int a3), .val (.int a4), w5] [] (hpo X mem sw o e) P
  refine QW.iload dMo_write_88 rfl ?_
  refine QW.bipush (v := 8) dMo_write_90 (by decide) ?_
  refine QW.icmp_ge (tgt := 142) dMo_write_92 (by decide) (fun z0 => ?_) (fun z0 => ?_)
  · refine QW.iconst (v := 1) dMo_write_142 (by decide) ?_
    exact QW.iret dMo_write_143 rfl rfl (k1 z0)
  · refine QW.lload_n dMo_write_95 rfl rfl ?_
    refine QW.bipush (v := 8) dMo_write_96 (by decide) ?_
    refine QW.iload dMo_write_98 rfl ?_
    refine QW.imul dMo_write_100 ?_
    refine QW.lushr dMo_write_101 ?_
    refine QW.ldc2 (v := 255) dMo_write_102 q_clM ?_
    refine QW.land dMo_write_105 ?_
    refine QW.l2i dMo_write_106 ?_
    refine QW.istore (ls' := [.val (.ref 193), .val (.long a1), .second, .val (.int a3), .val (.int a4), .val (.int (Int64.toInt32 (((Int64.toUInt64 a1 >>> ((Int32.toInt64 (8 * a4)).toUInt64 &&& Int64.toUInt64 63)).toInt64) &&& 255)))]) dMo_write_107 (by rcases hw5 with z | ⟨_, z⟩ | ⟨_, z⟩ <;> subst z <;> rfl) ?_
    refine QW.iload dMo_write_109 rfl ?_
    refine QW.if_eq (tgt := 136) dMo_write_111 (by decide) (fun z1 => ?_) (fun z1 => ?_)
    · refine MW.iinc (c := 1) (ls' := [.val (.ref 193), .val (.long a1), .second, .val (.int a3), .val (.int (a4 + 1)), .val (.int (Int64.toInt32 (((Int64.toUInt64 a1 >>> ((Int32.toInt64 (8 * a4)).toUInt64 &&& Int64.toUInt64 63)).toInt64) &&& 255)))]) dMo_write_136 (by decide) rfl rfl ?_
      refine QW.goto (tgt := 88) dMo_write_139 (by decide) ?_
      exact (k2 z0 z1)
    · refine QW.aload_n dMo_write_114 rfl rfl ?_
      refine MW.getr (r' := 198) hX dMo_write_115 fMo_23 rfl rfl (by cases sw <;> rfl) ?_
      refine QW.aload_n dMo_write_118 rfl rfl ?_
      refine MW.geti hX dMo_write_119 fMo_122 rfl rfl ?_
      refine QW.iload dMo_write_122 rfl ?_
      refine QW.i2c dMo_write_124 ?_
      refine MW.cast hX dMo_write_125 rfl (h3 z0 z1).1 (rep_get (h3 z0 z1).2) (h4 z0 z1) ?_
      refine QW.aload_n dMo_write_126 rfl rfl ?_
      refine QW.dup dMo_write_127 rfl ?_
      refine MW.geti hX dMo_write_128 fMo_122 rfl rfl ?_
      refine QW.iconst (v := 1) dMo_write_131 (by decide) ?_
      refine QW.iadd dMo_write_132 ?_
      refine MW.puti hX dMo_write_133 fMo_122 rfl rfl rfl ?_
      refine MW.iinc (c := 1) (ls' := [.val (.ref 193), .val (.long a1), .second, .val (.int a3), .val (.int (a4 + 1)), .val (.int (Int64.toInt32 (((Int64.toUInt64 a1 >>> ((Int32.toInt64 (8 * a4)).toUInt64 &&& Int64.toUInt64 63)).toInt64) &&& 255)))]) dMo_write_136 (by decide) rfl rfl ?_
      refine QW.goto (tgt := 88) dMo_write_139 (by decide) ?_
      exact (k5 z0 z1)
end BLK

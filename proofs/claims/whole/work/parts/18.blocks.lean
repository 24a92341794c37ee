section BLK
variable {d : Nat} {P : qE → Prop} {X : qH} {mem : Nat → Nat → Int32} {sw : Bool} {o : Int64} {e : List Nat}
theorem dBp_question_0 : decode mBp_question.2.1 0 = .ok (.aload_n 0, 1) := by decide +kernel
theorem dBp_question_1 : decode mBp_question.2.1 1 = .ok (.aload_n 0, 1) := by decide +kernel
theorem dBp_question_2 : decode mBp_question.2.1 2 = .ok (.getfield 26, 3) := by decide +kernel
theorem dBp_question_5 : decode mBp_question.2.1 5 = .ok (.aload_n 0, 1) := by decide +kernel
theorem dBp_question_6 : decode mBp_question.2.1 6 = .ok (.getfield 19, 3) := by decide +kernel
theorem dBp_question_9 : decode mBp_question.2.1 9 = .ok (.aload_n 0, 1) := by decide +kernel
theorem dBp_question_10 : decode mBp_question.2.1 10 = .ok (.getfield 12, 3) := by decide +kernel
theorem dBp_question_13 : decode mBp_question.2.1 13 = .ok (.aload_n 0, 1) := by decide +kernel
theorem dBp_question_14 : decode mBp_question.2.1 14 = .ok (.getfield 32, 3) := by decide +kernel
theorem dBp_question_17 : decode mBp_question.2.1 17 = .ok (.aload_n 0, 1) := by decide +kernel
theorem dBp_question_18 : decode mBp_question.2.1 18 = .ok (.getfield 37, 3) := by decide +kernel
theorem dBp_question_21 : decode mBp_question.2.1 21 = .ok (.aaload, 1) := by decide +kernel
theorem dBp_question_22 : decode mBp_question.2.1 22 = .ok (.invokevirtual 151, 3) := by decide +kernel
theorem dBp_question_25 : decode mBp_question.2.1 25 = .ok (.putfield 41, 3) := by decide +kernel
theorem dBp_question_28 : decode mBp_question.2.1 28 = .ok (.aload_n 0, 1) := by decide +kernel
theorem dBp_question_29 : decode mBp_question.2.1 29 = .ok (.getfield 41, 3) := by decide +kernel
theorem dBp_question_32 : decode mBp_question.2.1 32 = .ok (.iconst (-1), 1) := by decide +kernel
theorem dBp_question_33 : decode mBp_question.2.1 33 = .ok (.if_icmp .eq 13, 3) := by decide +kernel
theorem dBp_question_36 : decode mBp_question.2.1 36 = .ok (.new 81, 3) := by decide +kernel
theorem dBp_question_39 : decode mBp_question.2.1 39 = .ok (.dup, 1) := by decide +kernel
theorem dBp_question_40 : decode mBp_question.2.1 40 = .ok (.ldc 155, 2) := by decide +kernel
theorem dBp_question_42 : decode mBp_question.2.1 42 = .ok (.invokespecial 85, 3) := by decide +kernel
theorem dBp_question_45 : decode mBp_question.2.1 45 = .ok (.athrow, 1) := by decide +kernel
theorem dBp_question_46 : decode mBp_question.2.1 46 = .ok (.aload_n 0, 1) := by decide +kernel
theorem dBp_question_47 : decode mBp_question.2.1 47 = .ok (.getfield 37, 3) := by decide +kernel
theorem dBp_question_50 : decode mBp_question.2.1 50 = .ok (.iconst 4, 1) := by decide +kernel
theorem dBp_question_51 : decode mBp_question.2.1 51 = .ok (.if_icmp .lt 13, 3) := by decide +kernel
theorem dBp_question_54 : decode mBp_question.2.1 54 = .ok (.new 91, 3) := by decide +kernel
theorem dBp_question_57 : decode mBp_question.2.1 57 = .ok (.dup, 1) := by decide +kernel
theorem dBp_question_58 : decode mBp_question.2.1 58 = .ok (.ldc 157, 2) := by decide +kernel
theorem dBp_question_60 : decode mBp_question.2.1 60 = .ok (.invokespecial 95, 3) := by decide +kernel
theorem dBp_question_63 : decode mBp_question.2.1 63 = .ok (.athrow, 1) := by decide +kernel
theorem dBp_question_64 : decode mBp_question.2.1 64 = .ok (.aload_n 0, 1) := by decide +kernel
theorem dBp_question_65 : decode mBp_question.2.1 65 = .ok (.getfield 19, 3) := by decide +kernel
theorem dBp_question_68 : decode mBp_question.2.1 68 = .ok (.invokevirtual 147, 3) := by decide +kernel
theorem dBp_question_71 : decode mBp_question.2.1 71 = .ok (.pop, 1) := by decide +kernel
theorem dBp_question_72 : decode mBp_question.2.1 72 = .ok (.aload_n 0, 1) := by decide +kernel
theorem dBp_question_73 : decode mBp_question.2.1 73 = .ok (.dup, 1) := by decide +kernel
theorem dBp_question_74 : decode mBp_question.2.1 74 = .ok (.getfield 37, 3) := by decide +kernel
theorem dBp_question_77 : decode mBp_question.2.1 77 = .ok (.iconst 1, 1) := by decide +kernel
theorem dBp_question_78 : decode mBp_question.2.1 78 = .ok (.iadd, 1) := by decide +kernel
theorem dBp_question_79 : decode mBp_question.2.1 79 = .ok (.putfield 37, 3) := by decide +kernel
theorem dBp_question_82 : decode mBp_question.2.1 82 = .ok (.aload_n 0, 1) := by decide +kernel
theorem dBp_question_83 : decode mBp_question.2.1 83 = .ok (.getfield 37, 3) := by decide +kernel
theorem dBp_question_86 : decode mBp_question.2.1 86 = .ok (.iconst 1, 1) := by decide +kernel
theorem dBp_question_87 : decode mBp_question.2.1 87 = .ok (.isub, 1) := by decide +kernel
theorem dBp_question_88 : decode mBp_question.2.1 88 = .ok (.ireturn, 1) := by decide +kernel
def lBp_question_25  : List Slot := [.val (.ref 13)]
def lBp_question_71  : List Slot := [.val (.ref 13)]
theorem bBp_question_0 (hX : X.length = 13) (h1 : inx (mem 13 4) 5) (k2 : QW d mRd_read 0 (qen 7 [.ref 30, .ref 28, .ref 14, .ref (36 + 24 * (Int32.toNatClampNeg (mem 13 4)))]) [] (hpo X mem sw o e) (qcl d mBp_question 22 25 lBp_question_25 [.ref 13] P)) : QW (d + 1) mBp_question 0 (qen 1 [.ref 13]) [] (hpo X mem sw o e) P := by
  show QW (d + 1) mBp_question 0 [.val (.ref 13)] [] (hpo X mem sw o e) P
  refine QW.aload_n dBp_question_0 rfl rfl ?_
  refine QW.aload_n dBp_question_1 rfl rfl ?_
  refine MW.getr (r' := 30) hX dBp_question_2 fBp_26 rfl rfl (by cases sw <;> rfl) ?_
  refine QW.aload_n dBp_question_5 rfl rfl ?_
  refine MW.getr (r' := 28) hX dBp_question_6 fBp_19 rfl rfl (by cases sw <;> rfl) ?_
  refine QW.aload_n dBp_question_9 rfl rfl ?_
  refine MW.getr (r' := 14) hX dBp_question_10 fBp_12 rfl rfl (by cases sw <;> rfl) ?_
  refine QW.aload_n dBp_question_13 rfl rfl ?_
  refine MW.getr (r' := 35) hX dBp_question_14 fBp_32 rfl rfl (by cases sw <;> rfl) ?_
  refine QW.aload_n dBp_question_17 rfl rfl ?_
  refine MW.geti hX dBp_question_18 fBp_37 rfl rfl ?_
  refine MW.aald (r' := (36 + 24 * (Int32.toNatClampNeg (mem 13 4)))) hX dBp_question_21 rfl rfl (Nat.le_of_ble_eq_true rfl) h1.1 (el_qu h1.2) (sw_qu h1.2) ?_
  exact MW.calV (as := [.ref 28, .ref 14, .ref (36 + 24 * (Int32.toNatClampNeg (mem 13 4)))]) (rest := [.ref 13]) hX dBp_question_22 eRd_read lBp_151 iRd_read vRd_read rfl rfl rfl rfl rfl rfl (Nat.le_of_ble_eq_true rfl) rfl k2
theorem bBp_question_25 {s1 : Int32} (hX : X.length = 13) (k1 : (((mup mem 13 5 s1) 13 5) = (-1)) → (((mup mem 13 5 s1) 13 4) < 4) → QW d mTxt_clear 0 (qen 2 [.ref 28]) [] (hpo X (mup mem 13 5 s1) sw o e) (qcl d mBp_question 68 71 lBp_question_71 [] P)) (c2 : e.length < 10000) (k3 : (((mup mem 13 5 s1) 13 5) = (-1)) → (¬ ((mup mem 13 5 s1) 13 4) < 4) → P (.inr (225 + e.length), hpo X (mup mem 13 5 s1) sw o (e ++ [21]))) (c4 : e.length < 10000) (k5 : (¬ ((mup mem 13 5 s1) 13 5) = (-1)) → P (.inr (225 + e.length), hpo X (mup mem 13 5 s1) sw o (e ++ [20]))) : QW (d + 1) mBp_question 25 (lBp_question_25) [.int s1, .ref 13] (hpo X mem sw o e) P := by
  show QW (d + 1) mBp_question 25 [.val (.ref 13)] [.int s1, .ref 13] (hpo X mem sw o e) P
  refine MW.puti hX dBp_question_25 fBp_41 rfl rfl rfl ?_
  refine QW.aload_n dBp_question_28 rfl rfl ?_
  refine MW.geti hX dBp_question_29 fBp_41 rfl rfl ?_
  refine QW.iconst (v := (-1)) dBp_question_32 (by decide) ?_
  refine QW.icmp_eq (tgt := 46) dBp_question_33 (by decide) (fun z0 => ?_) (fun z0 => ?_)
  · refine QW.aload_n dBp_question_46 rfl rfl ?_
    refine MW.geti hX dBp_question_47 fBp_37 rfl rfl ?_
    refine QW.iconst (v := 4) dBp_question_50 (by decide) ?_
    refine QW.icmp_lt (tgt := 64) dBp_question_51 (by decide) (fun z1 => ?_) (fun z1 => ?_)
    · refine QW.aload_n dBp_question_64 rfl rfl ?_
      refine MW.getr (r' := 28) hX dBp_question_65 fBp_19 rfl rfl (by cases sw <;> rfl) ?_
      exact MW.calV (as := []) (rest := []) hX dBp_question_68 eTxt_clear lBp_147 iTxt_clear vTxt_clear rfl rfl rfl rfl rfl rfl (Nat.le_of_ble_eq_true rfl) rfl (k1 z0 z1)
    · exact MW.thr hX tBp_157_95 dBp_question_54 dBp_question_57 dBp_question_58 dBp_question_60 dBp_question_63 rfl c2 rfl (k3 z0 z1)
  · exact MW.thr hX tBp_155_85 dBp_question_36 dBp_question_39 dBp_question_40 dBp_question_42 dBp_question_45 rfl c4 rfl (k5 z0)
theorem bBp_question_71 {s0 : Int32} (hX : X.length = 13) (k1 : P (.inl (some (.int (((mup mem 13 4 ((mem 13 4) + 1)) 13 4) - 1))), (hpo X (mup mem 13 4 ((mem 13 4) + 1)) sw o e))) : QW d mBp_question 71 (lBp_question_71) [.int s0] (hpo X mem sw o e) P := by
  show QW d mBp_question 71 [.val (.ref 13)] [.int s0] (hpo X mem sw o e) P
  refine QW.pop dBp_question_71 rfl ?_
  refine QW.aload_n dBp_question_72 rfl rfl ?_
  refine QW.dup dBp_question_73 rfl ?_
  refine MW.geti hX dBp_question_74 fBp_37 rfl rfl ?_
  refine QW.iconst (v := 1) dBp_question_77 (by decide) ?_
  refine QW.iadd dBp_question_78 ?_
  refine MW.puti hX dBp_question_79 fBp_37 rfl rfl rfl ?_
  refine QW.aload_n dBp_question_82 rfl rfl ?_
  refine MW.geti hX dBp_question_83 fBp_37 rfl rfl ?_
  refine QW.iconst (v := 1) dBp_question_86 (by decide) ?_
  refine QW.isub dBp_question_87 ?_
  exact QW.iret dBp_question_88 rfl rfl k1
theorem dBp_row_0 : decode mBp_row.2.1 0 = .ok (.aload_n 0, 1) := by decide +kernel
theorem dBp_row_1 : decode mBp_row.2.1 1 = .ok (.getfield 54, 3) := by decide +kernel
theorem dBp_row_4 : decode mBp_row.2.1 4 = .ok (.iload_n 1, 1) := by decide +kernel
theorem dBp_row_5 : decode mBp_row.2.1 5 = .ok (.invokevirtual 175, 3) := by decide +kernel
theorem dBp_row_8 : decode mBp_row.2.1 8 = .ok (.ifCond .eq 18, 3) := by decide +kernel
theorem dBp_row_11 : decode mBp_row.2.1 11 = .ok (.iload_n 2, 1) := by decide +kernel
theorem dBp_row_12 : decode mBp_row.2.1 12 = .ok (.ifCond .lt 14, 3) := by decide +kernel
theorem dBp_row_15 : decode mBp_row.2.1 15 = .ok (.iload_n 2, 1) := by decide +kernel
theorem dBp_row_16 : decode mBp_row.2.1 16 = .ok (.aload_n 0, 1) := by decide +kernel
theorem dBp_row_17 : decode mBp_row.2.1 17 = .ok (.getfield 54, 3) := by decide +kernel
theorem dBp_row_20 : decode mBp_row.2.1 20 = .ok (.getfield 176, 3) := by decide +kernel
theorem dBp_row_23 : decode mBp_row.2.1 23 = .ok (.if_icmp .lt 13, 3) := by decide +kernel
theorem dBp_row_26 : decode mBp_row.2.1 26 = .ok (.new 179, 3) := by decide +kernel
theorem dBp_row_29 : decode mBp_row.2.1 29 = .ok (.dup, 1) := by decide +kernel
theorem dBp_row_30 : decode mBp_row.2.1 30 = .ok (.ldc 181, 2) := by decide +kernel
theorem dBp_row_32 : decode mBp_row.2.1 32 = .ok (.invokespecial 183, 3) := by decide +kernel
theorem dBp_row_35 : decode mBp_row.2.1 35 = .ok (.athrow, 1) := by decide +kernel
theorem dBp_row_36 : decode mBp_row.2.1 36 = .ok (.aload_n 0, 1) := by decide +kernel
theorem dBp_row_37 : decode mBp_row.2.1 37 = .ok (.getfield 54, 3) := by decide +kernel
theorem dBp_row_40 : decode mBp_row.2.1 40 = .ok (.getfield 184, 3) := by decide +kernel
theorem dBp_row_43 : decode mBp_row.2.1 43 = .ok (.iload_n 1, 1) := by decide +kernel
theorem dBp_row_44 : decode mBp_row.2.1 44 = .ok (.iconst 3, 1) := by decide +kernel
theorem dBp_row_45 : decode mBp_row.2.1 45 = .ok (.imul, 1) := by decide +kernel
theorem dBp_row_46 : decode mBp_row.2.1 46 = .ok (.iload_n 2, 1) := by decide +kernel
theorem dBp_row_47 : decode mBp_row.2.1 47 = .ok (.iadd, 1) := by decide +kernel
theorem dBp_row_48 : decode mBp_row.2.1 48 = .ok (.iaload, 1) := by decide +kernel
theorem dBp_row_49 : decode mBp_row.2.1 49 = .ok (.ireturn, 1) := by decide +kernel
def lBp_row_8 (a1 : Int32) (a2 : Int32) : List Slot := [.val (.ref 13), .val (.int a1), .val (.int a2)]
def lBp_row_26 (a1 : Int32) (a2 : Int32) : List Slot := [.val (.ref 13), .val (.int a1), .val (.int a2)]
theorem bBp_row_0 {a1 : Int32} {a2 : Int32} (hX : X.length = 13) (k1 : QW d mBag_has 0 (qen 2 [.ref (swp sw 161), .int a1]) [] (hpo X mem sw o e) (qcl d mBp_row 5 8 (lBp_row_8 a1 a2) [] P)) : QW (d + 1) mBp_row 0 (qen 3 [.ref 13, .int a1, .int a2]) [] (hpo X mem sw o e) P := by
  show QW (d + 1) mBp_row 0 [.val (.ref 13), .val (.int a1), .val (.int a2)] [] (hpo X mem sw o e) P
  refine QW.aload_n dBp_row_0 rfl rfl ?_
  refine MW.getr (r' := (swp sw 161)) hX dBp_row_1 fBp_54 rfl rfl rfl ?_
  refine QW.iload_n dBp_row_4 rfl rfl ?_
  exact MW.calV (as := [.int a1]) (rest := []) hX dBp_row_5 eBag_has lBp_175 iBag_has vBag_has rfl rfl (kBag_0 kBag_sw161) rfl rfl rfl (Nat.le_of_ble_eq_true rfl) rfl k1
theorem bBp_row_8 {a1 : Int32} {a2 : Int32} {s0 : Int32} (hX : X.length = 13) (k1 : (s0 = 0) → QW d mBp_row 26 (lBp_row_26 a1 a2) [] (hpo X mem sw o e) P) (k2 : (¬ s0 = 0) → (a2 < 0) → QW d mBp_row 26 (lBp_row_26 a1 a2) [] (hpo X mem sw o e) P) (h3 : (¬ s0 = 0) → (¬ a2 < 0) → (a2 < (mem (swp sw 161) 0)) → inx ((a1 * 3) + a2) 192) (k4 : (¬ s0 = 0) → (¬ a2 < 0) → (a2 < (mem (swp sw 161) 0)) → P (.inl (some (.int (mem ((swp sw 161) + 1) (Int32.toNatClampNeg ((a1 * 3) + a2))))), (hpo X mem sw o e))) (k5 : (¬ s0 = 0) → (¬ a2 < 0) → (¬ a2 < (mem (swp sw 161) 0)) → QW d mBp_row 26 (lBp_row_26 a1 a2) [] (hpo X mem sw o e) P) : QW d mBp_row 8 (lBp_row_8 a1 a2) [.int s0] (hpo X mem sw o e) P := by
  show QW d mBp_row 8 [.val (.ref 13), .val (.int a1), .val (.int a2)] [.int s0] (hpo X mem sw o e) P
  refine QW.if_eq (tgt := 26) dBp_row_8 (by decide) (fun z0 => ?_) (fun z0 => ?_)
  · exact (k1 z0)
  · refine QW.iload_n dBp_row_11 rfl rfl ?_
    refine QW.if_lt (tgt := 26) dBp_row_12 (by decide) (fun z1 => ?_) (fun z1 => ?_)
    · exact (k2 z0 z1)
    · refine QW.iload_n dBp_row_15 rfl rfl ?_
      refine QW.aload_n dBp_row_16 rfl rfl ?_
      refine MW.getr (r' := (swp sw 161)) hX dBp_row_17 fBp_54 rfl rfl rfl ?_
      refine MW.geti hX dBp_row_20 fBp_176 (kBag_0 kBag_sw161) rfl ?_
      refine QW.icmp_lt (tgt := 36) dBp_row_23 (by decide) (fun z2 => ?_) (fun z2 => ?_)
      · refine QW.aload_n dBp_row_36 rfl rfl ?_
        refine MW.getr (r' := (swp sw 161)) hX dBp_row_37 fBp_54 rfl rfl rfl ?_
        refine MW.getr (r' := ((swp sw 161) + 1)) hX dBp_row_40 fBp_184 (kBag_0 kBag_sw161) rfl (kBag_s1 kBag_sw161 _) ?_
        refine QW.iload_n dBp_row_43 rfl rfl ?_
        refine QW.iconst (v := 3) dBp_row_44 (by decide) ?_
        refine QW.imul dBp_row_45 ?_
        refine QW.iload_n dBp_row_46 rfl rfl ?_
        refine QW.iadd dBp_row_47 ?_
        refine MW.iald hX dBp_row_48 (kBag_1 kBag_sw161) (h3 z0 z1 z2).1 (rep_get (h3 z0 z1 z2).2) ?_
        exact QW.iret dBp_row_49 rfl rfl (k4 z0 z1 z2)
      · exact (k5 z0 z1 z2)
theorem bBp_row_26 {a1 : Int32} {a2 : Int32} (hX : X.length = 13) (c1 : e.length < 10000) (k2 : P (.inr (225 + e.length), hpo X mem sw o (e ++ [23]))) : QW d mBp_row 26 (lBp_row_26 a1 a2) [] (hpo X mem sw o e) P := by
  show QW d mBp_row 26 [.val (.ref 13), .val (.int a1), .val (.int a2)] [] (hpo X mem sw o e) P
  exact MW.thr hX tBp_181_183 dBp_row_26 dBp_row_29 dBp_row_30 dBp_row_32 dBp_row_35 rfl c1 rfl k2
theorem dBp_times_0 : decode mBp_times.2.1 0 = .ok (.aload_n 0, 1) := by decide +kernel
theorem dBp_times_1 : decode mBp_times.2.1 1 = .ok (.getfield 54, 3) := by decide +kernel
theorem dBp_times_4 : decode mBp_times.2.1 4 = .ok (.iload_n 1, 1) := by decide +kernel
theorem dBp_times_5 : decode mBp_times.2.1 5 = .ok (.invokevirtual 175, 3) := by decide +kernel
theorem dBp_times_8 : decode mBp_times.2.1 8 = .ok (.ifCond .ne 13, 3) := by decide +kernel
theorem dBp_times_11 : decode mBp_times.2.1 11 = .ok (.new 179, 3) := by decide +kernel
theorem dBp_times_14 : decode mBp_times.2.1 14 = .ok (.dup, 1) := by decide +kernel
theorem dBp_times_15 : decode mBp_times.2.1 15 = .ok (.ldc 188, 2) := by decide +kernel
theorem dBp_times_17 : decode mBp_times.2.1 17 = .ok (.invokespecial 183, 3) := by decide +kernel
theorem dBp_times_20 : decode mBp_times.2.1 20 = .ok (.athrow, 1) := by decide +kernel
theorem dBp_times_21 : decode mBp_times.2.1 21 = .ok (.aload_n 0, 1) := by decide +kernel
theorem dBp_times_22 : decode mBp_times.2.1 22 = .ok (.getfield 54, 3) := by decide +kernel
theorem dBp_times_25 : decode mBp_times.2.1 25 = .ok (.getfield 190, 3) := by decide +kernel
theorem dBp_times_28 : decode mBp_times.2.1 28 = .ok (.iload_n 1, 1) := by decide +kernel
theorem dBp_times_29 : decode mBp_times.2.1 29 = .ok (.iaload, 1) := by decide +kernel
theorem dBp_times_30 : decode mBp_times.2.1 30 = .ok (.ireturn, 1) := by decide +kernel
def lBp_times_8 (a1 : Int32) : List Slot := [.val (.ref 13), .val (.int a1)]
theorem bBp_times_0 {a1 : Int32} (hX : X.length = 13) (k1 : QW d mBag_has 0 (qen 2 [.ref (swp sw 161), .int a1]) [] (hpo X mem sw o e) (qcl d mBp_times 5 8 (lBp_times_8 a1) [] P)) : QW (d + 1) mBp_times 0 (qen 2 [.ref 13, .int a1]) [] (hpo X mem sw o e) P := by
  show QW (d + 1) mBp_times 0 [.val (.ref 13), .val (.int a1)] [] (hpo X mem sw o e) P
  refine QW.aload_n dBp_times_0 rfl rfl ?_
  refine MW.getr (r' := (swp sw 161)) hX dBp_times_1 fBp_54 rfl rfl rfl ?_
  refine QW.iload_n dBp_times_4 rfl rfl ?_
  exact MW.calV (as := [.int a1]) (rest := []) hX dBp_times_5 eBag_has lBp_175 iBag_has vBag_has rfl rfl (kBag_0 kBag_sw161) rfl rfl rfl (Nat.le_of_ble_eq_true rfl) rfl k1
theorem bBp_times_8 {a1 : Int32} {s0 : Int32} (hX : X.length = 13) (h1 : (¬ s0 = 0) → inx a1 64) (k2 : (¬ s0 = 0) → P (.inl (some (.int (mem ((swp sw 161) + 2) (Int32.toNatClampNeg a1)))), (hpo X mem sw o e))) (c3 : e.length < 10000) (k4 : (s0 = 0) → P (.inr (225 + e.length), hpo X mem sw o (e ++ [23]))) : QW d mBp_times 8 (lBp_times_8 a1) [.int s0] (hpo X mem sw o e) P := by
  show QW d mBp_times 8 [.val (.ref 13), .val (.int a1)] [.int s0] (hpo X mem sw o e) P
  refine QW.if_ne (tgt := 21) dBp_times_8 (by decide) (fun z0 => ?_) (fun z0 => ?_)
  · refine QW.aload_n dBp_times_21 rfl rfl ?_
    refine MW.getr (r' := (swp sw 161)) hX dBp_times_22 fBp_54 rfl rfl rfl ?_
    refine MW.getr (r' := ((swp sw 161) + 2)) hX dBp_times_25 fBp_190 (kBag_0 kBag_sw161) rfl (kBag_s2 kBag_sw161 _) ?_
    refine QW.iload_n dBp_times_28 rfl rfl ?_
    refine MW.iald hX dBp_times_29 (kBag_2 kBag_sw161) (h1 z0).1 (rep_get (h1 z0).2) ?_
    exact QW.iret dBp_times_30 rfl rfl (k2 z0)
  · exact MW.thr hX tBp_188_183 dBp_times_11 dBp_times_14 dBp_times_15 dBp_times_17 dBp_times_20 rfl c3 rfl (k4 z0)
theorem dBp_total_0 : decode mBp_total.2.1 0 = .ok (.aload_n 0, 1) := by decide +kernel
theorem dBp_total_1 : decode mBp_total.2.1 1 = .ok (.getfield 54, 3) := by decide +kernel
theorem dBp_total_4 : decode mBp_total.2.1 4 = .ok (.invokevirtual 193, 3) := by decide +kernel
theorem dBp_total_7 : decode mBp_total.2.1 7 = .ok (.ireturn, 1) := by decide +kernel
def lBp_total_7  : List Slot := [.val (.ref 13)]
theorem bBp_total_0 (hX : X.length = 13) (k1 : QW d mBag_sum 0 (qen 3 [.ref (swp sw 161)]) [] (hpo X mem sw o e) (qcl d mBp_total 4 7 lBp_total_7 [] P)) : QW (d + 1) mBp_total 0 (qen 1 [.ref 13]) [] (hpo X mem sw o e) P := by
  show QW (d + 1) mBp_total 0 [.val (.ref 13)] [] (hpo X mem sw o e) P
  refine QW.aload_n dBp_total_0 rfl rfl ?_
  refine MW.getr (r' := (swp sw 161)) hX dBp_total_1 fBp_54 rfl rfl rfl ?_
  exact MW.calV (as := []) (rest := []) hX dBp_total_4 eBag_sum lBp_193 iBag_sum vBag_sum rfl rfl (kBag_0 kBag_sw161) rfl rfl rfl (Nat.le_of_ble_eq_true rfl) rfl k1
theorem bBp_total_7 {s0 : Int32} (hX : X.length = 13) (k1 : P (.inl (some (.int s0)), (hpo X mem sw o e))) : QW d mBp_total 7 (lBp_total_7) [.int s0] (hpo X mem sw o e) P := by
  show QW d mBp_total 7 [.val (.ref 13)] [.int s0] (hpo X mem sw o e) P
  exact QW.iret dBp_total_7 rfl rfl k1
theorem dBp_alike_0 : decode mBp_alike.2.1 0 = .ok (.aload_n 0, 1) := by decide +kernel
theorem dBp_alike_1 : decode mBp_alike.2.1 1 = .ok (.iload_n 1, 1) := by decide +kernel
theorem dBp_alike_2 : decode mBp_alike.2.1 2 = .ok (.invokevirtual 159, 3) := by decide +kernel
theorem dBp_alike_5 : decode mBp_alike.2.1 5 = .ok (.astore_n 3, 1) := by decide +kernel
theorem dBp_alike_6 : decode mBp_alike.2.1 6 = .ok (.aload_n 0, 1) := by decide +kernel
theorem dBp_alike_7 : decode mBp_alike.2.1 7 = .ok (.iload_n 2, 1) := by decide +kernel
theorem dBp_alike_8 : decode mBp_alike.2.1 8 = .ok (.invokevirtual 159, 3) := by decide +kernel
theorem dBp_alike_11 : decode mBp_alike.2.1 11 = .ok (.astore 4, 2) := by decide +kernel
theorem dBp_alike_13 : decode mBp_alike.2.1 13 = .ok (.aload_n 0, 1) := by decide +kernel
theorem dBp_alike_14 : decode mBp_alike.2.1 14 = .ok (.getfield 67, 3) := by decide +kernel
theorem dBp_alike_17 : decode mBp_alike.2.1 17 = .ok (.aload_n 3, 1) := by decide +kernel
theorem dBp_alike_18 : decode mBp_alike.2.1 18 = .ok (.invokestatic 196, 3) := by decide +kernel
theorem dBp_alike_21 : decode mBp_alike.2.1 21 = .ok (.aload_n 0, 1) := by decide +kernel
theorem dBp_alike_22 : decode mBp_alike.2.1 22 = .ok (.getfield 12, 3) := by decide +kernel
theorem dBp_alike_25 : decode mBp_alike.2.1 25 = .ok (.invokevirtual 200, 3) := by decide +kernel
theorem dBp_alike_28 : decode mBp_alike.2.1 28 = .ok (.aload_n 0, 1) := by decide +kernel
theorem dBp_alike_29 : decode mBp_alike.2.1 29 = .ok (.getfield 71, 3) := by decide +kernel
theorem dBp_alike_32 : decode mBp_alike.2.1 32 = .ok (.aload 4, 2) := by decide +kernel
theorem dBp_alike_34 : decode mBp_alike.2.1 34 = .ok (.invokestatic 196, 3) := by decide +kernel
theorem dBp_alike_37 : decode mBp_alike.2.1 37 = .ok (.aload_n 0, 1) := by decide +kernel
theorem dBp_alike_38 : decode mBp_alike.2.1 38 = .ok (.getfield 12, 3) := by decide +kernel
theorem dBp_alike_41 : decode mBp_alike.2.1 41 = .ok (.invokevirtual 200, 3) := by decide +kernel
theorem dBp_alike_44 : decode mBp_alike.2.1 44 = .ok (.aload_n 0, 1) := by decide +kernel
theorem dBp_alike_45 : decode mBp_alike.2.1 45 = .ok (.getfield 77, 3) := by decide +kernel
theorem dBp_alike_48 : decode mBp_alike.2.1 48 = .ok (.aload_n 0, 1) := by decide +kernel
theorem dBp_alike_49 : decode mBp_alike.2.1 49 = .ok (.getfield 67, 3) := by decide +kernel
theorem dBp_alike_52 : decode mBp_alike.2.1 52 = .ok (.aload_n 0, 1) := by decide +kernel
theorem dBp_alike_53 : decode mBp_alike.2.1 53 = .ok (.getfield 71, 3) := by decide +kernel
theorem dBp_alike_56 : decode mBp_alike.2.1 56 = .ok (.invokevirtual 204, 3) := by decide +kernel
theorem dBp_alike_59 : decode mBp_alike.2.1 59 = .ok (.ireturn, 1) := by decide +kernel
def lBp_alike_5 (a1 : Int32) (a2 : Int32) : List Slot := [.val (.ref 13), .val (.int a1), .val (.int a2), .unset, .unset]
def lBp_alike_11 (a1 : Int32) (a2 : Int32) (r3 : Nat) : List Slot := [.val (.ref 13), .val (.int a1), .val (.int a2), .val (.ref r3), .unset]
def lBp_alike_21 (a1 : Int32) (a2 : Int32) (r3 : Nat) (r4 : Nat) : List Slot := [.val (.ref 13), .val (.int a1), .val (.int a2), .val (.ref r3), .val (.ref r4)]
def lBp_alike_28 (a1 : Int32) (a2 : Int32) (r3 : Nat) (r4 : Nat) : List Slot := [.val (.ref 13), .val (.int a1), .val (.int a2), .val (.ref r3), .val (.ref r4)]
def lBp_alike_37 (a1 : Int32) (a2 : Int32) (r3 : Nat) (r4 : Nat) : List Slot := [.val (.ref 13), .val (.int a1), .val (.int a2), .val (.ref r3), .val (.ref r4)]
def lBp_alike_44 (a1 : Int32) (a2 : Int32) (r3 : Nat) (r4 : Nat) : List Slot := [.val (.ref 13), .val (.int a1), .val (.int a2), .val (.ref r3), .val (.ref r4)]
def lBp_alike_59 (a1 : Int32) (a2 : Int32) (r3 : Nat) (r4 : Nat) : List Slot := [.val (.ref 13), .val (.int a1), .val (.int a2), .val (.ref r3), .val (.ref r4)]
theorem bBp_alike_0 {a1 : Int32} {a2 : Int32} (hX : X.length = 13) (k1 : QW d mBp_questionAt 0 (qen 2 [.ref 13, .int a1]) [] (hpo X mem sw o e) (qcl d mBp_alike 2 5 (lBp_alike_5 a1 a2) [] P)) : QW (d + 1) mBp_alike 0 (qen 5 [.ref 13, .int a1, .int a2]) [] (hpo X mem sw o e) P := by
  show QW (d + 1) mBp_alike 0 [.val (.ref 13), .val (.int a1), .val (.int a2), .unset, .unset] [] (hpo X mem sw o e) P
  refine QW.aload_n dBp_alike_0 rfl rfl ?_
  refine QW.iload_n dBp_alike_1 rfl rfl ?_
  exact MW.calV (as := [.int a1]) (rest := []) hX dBp_alike_2 eBp_questionAt lBp_159 iBp_questionAt vBp_questionAt rfl rfl rfl rfl rfl rfl (Nat.le_of_ble_eq_true rfl) rfl k1
theorem bBp_alike_5 {a1 : Int32} {a2 : Int32} {q0 : Nat} (hX : X.length = 13) (hq0 : kQu q0) (k1 : QW d mBp_questionAt 0 (qen 2 [.ref 13, .int a2]) [] (hpo X mem sw o e) (qcl d mBp_alike 8 11 (lBp_alike_11 a1 a2 q0) [] P)) : QW (d + 1) mBp_alike 5 (lBp_alike_5 a1 a2) [.ref q0] (hpo X mem sw o e) P := by
  show QW (d + 1) mBp_alike 5 [.val (.ref 13), .val (.int a1), .val (.int a2), .unset, .unset] [.ref q0] (hpo X mem sw o e) P
  refine QW.astore_n (ls' := [.val (.ref 13), .val (.int a1), .val (.int a2), .val (.ref q0), .unset]) dBp_alike_5 rfl rfl ?_
  refine QW.aload_n dBp_alike_6 rfl rfl ?_
  refine QW.iload_n dBp_alike_7 rfl rfl ?_
  exact MW.calV (as := [.int a2]) (rest := []) hX dBp_alike_8 eBp_questionAt lBp_159 iBp_questionAt vBp_questionAt rfl rfl rfl rfl rfl rfl (Nat.le_of_ble_eq_true rfl) rfl k1
theorem bBp_alike_11 {a1 : Int32} {a2 : Int32} {r3 : Nat} {q0 : Nat} (hX : X.length = 13) (hr3 : kQu r3) (hq0 : kQu q0) (k1 : QW d mBp_onlyBlock 0 (qen 1 [.ref r3]) [] (hpo X mem sw o e) (qcl d mBp_alike 18 21 (lBp_alike_21 a1 a2 r3 q0) [.ref 170] P)) : QW (d + 1) mBp_alike 11 (lBp_alike_11 a1 a2 r3) [.ref q0] (hpo X mem sw o e) P := by
  show QW (d + 1) mBp_alike 11 [.val (.ref 13), .val (.int a1), .val (.int a2), .val (.ref r3), .unset] [.ref q0] (hpo X mem sw o e) P
  refine QW.astore (ls' := [.val (.ref 13), .val (.int a1), .val (.int a2), .val (.ref r3), .val (.ref q0)]) dBp_alike_11 rfl ?_
  refine QW.aload_n dBp_alike_13 rfl rfl ?_
  refine MW.getr (r' := 170) hX dBp_alike_14 fBp_67 rfl rfl (by cases sw <;> rfl) ?_
  refine QW.aload_n dBp_alike_17 rfl rfl ?_
  exact MW.calS (as := [.ref r3]) (rest := [.ref 170]) dBp_alike_18 eBp_onlyBlock lBp_196 sBp_onlyBlock rfl rfl rfl (Nat.le_of_ble_eq_true rfl) rfl k1
theorem bBp_alike_21 {a1 : Int32} {a2 : Int32} {r3 : Nat} {r4 : Nat} {q1 : Nat} (hX : X.length = 13) (hr3 : kQu r3) (hr4 : kQu r4) (hq1 : kBl q1) (k1 : QW d mNf_build 0 (qen 4 [.ref 170, .ref q1, .ref 14]) [] (hpo X mem sw o e) (qcl d mBp_alike 25 28 (lBp_alike_28 a1 a2 r3 r4) [] P)) : QW (d + 1) mBp_alike 21 (lBp_alike_21 a1 a2 r3 r4) [.ref q1, .ref 170] (hpo X mem sw o e) P := by
  show QW (d + 1) mBp_alike 21 [.val (.ref 13), .val (.int a1), .val (.int a2), .val (.ref r3), .val (.ref r4)] [.ref q1, .ref 170] (hpo X mem sw o e) P
  refine QW.aload_n dBp_alike_21 rfl rfl ?_
  refine MW.getr (r' := 14) hX dBp_alike_22 fBp_12 rfl rfl (by cases sw <;> rfl) ?_
  exact MW.calV (as := [.ref q1, .ref 14]) (rest := []) hX dBp_alike_25 eNf_build lBp_200 iNf_build vNf_build rfl rfl rfl rfl rfl rfl (Nat.le_of_ble_eq_true rfl) rfl k1
theorem bBp_alike_28 {a1 : Int32} {a2 : Int32} {r3 : Nat} {r4 : Nat} (hX : X.length = 13) (hr3 : kQu r3) (hr4 : kQu r4) (k1 : QW d mBp_onlyBlock 0 (qen 1 [.ref r4]) [] (hpo X mem sw o e) (qcl d mBp_alike 34 37 (lBp_alike_37 a1 a2 r3 r4) [.ref 180] P)) : QW (d + 1) mBp_alike 28 (lBp_alike_28 a1 a2 r3 r4) [] (hpo X mem sw o e) P := by
  show QW (d + 1) mBp_alike 28 [.val (.ref 13), .val (.int a1), .val (.int a2), .val (.ref r3), .val (.ref r4)] [] (hpo X mem sw o e) P
  refine QW.aload_n dBp_alike_28 rfl rfl ?_
  refine MW.getr (r' := 180) hX dBp_alike_29 fBp_71 rfl rfl (by cases sw <;> rfl) ?_
  refine QW.aload dBp_alike_32 rfl ?_
  exact MW.calS (as := [.ref r4]) (rest := [.ref 180]) dBp_alike_34 eBp_onlyBlock lBp_196 sBp_onlyBlock rfl rfl rfl (Nat.le_of_ble_eq_true rfl) rfl k1
theorem bBp_alike_37 {a1 : Int32} {a2 : Int32} {r3 : Nat} {r4 : Nat} {q1 : Nat} (hX : X.length = 13) (hr3 : kQu r3) (hr4 : kQu r4) (hq1 : kBl q1) (k1 : QW d mNf_build 0 (qen 4 [.ref 180, .ref q1, .ref 14]) [] (hpo X mem sw o e) (qcl d mBp_alike 41 44 (lBp_alike_44 a1 a2 r3 r4) [] P)) : QW (d + 1) mBp_alike 37 (lBp_alike_37 a1 a2 r3 r4) [.ref q1, .ref 180] (hpo X mem sw o e) P := by
  show QW (d + 1) mBp_alike 37 [.val (.ref 13), .val (.int a1), .val (.int a2), .val (.ref r3), .val (.ref r4)] [.ref q1, .ref 180] (hpo X mem sw o e) P
  refine QW.aload_n dBp_alike_37 rfl rfl ?_
  refine MW.getr (r' := 14) hX dBp_alike_38 fBp_12 rfl rfl (by cases sw <;> rfl) ?_
  exact MW.calV (as := [.ref q1, .ref 14]) (rest := []) hX dBp_alike_41 eNf_build lBp_200 iNf_build vNf_build rfl rfl rfl rfl rfl rfl (Nat.le_of_ble_eq_true rfl) rfl k1
theorem bBp_alike_44 {a1 : Int32} {a2 : Int32} {r3 : Nat} {r4 : Nat} (hX : X.length = 13) (hr3 : kQu r3) (hr4 : kQu r4) (k1 : QW d mPg_exists 0 (qen 3 [.ref 190, .ref 170, .ref 180]) [] (hpo X mem sw o e) (qcl d mBp_alike 56 59 (lBp_alike_59 a1 a2 r3 r4) [] P)) : QW (d + 1) mBp_alike 44 (lBp_alike_44 a1 a2 r3 r4) [] (hpo X mem sw o e) P := by
  show QW (d + 1) mBp_alike 44 [.val (.ref 13), .val (.int a1), .val (.int a2), .val (.ref r3), .val (.ref r4)] [] (hpo X mem sw o e) P
  refine QW.aload_n dBp_alike_44 rfl rfl ?_
  refine MW.getr (r' := 190) hX dBp_alike_45 fBp_77 rfl rfl (by cases sw <;> rfl) ?_
  refine QW.aload_n dBp_alike_48 rfl rfl ?_
  refine MW.getr (r' := 170) hX dBp_alike_49 fBp_67 rfl rfl (by cases sw <;> rfl) ?_
  refine QW.aload_n dBp_alike_52 rfl rfl ?_
  refine MW.getr (r' := 180) hX dBp_alike_53 fBp_71 rfl rfl (by cases sw <;> rfl) ?_
  exact MW.calV (as := [.ref 170, .ref 180]) (rest := []) hX dBp_alike_56 ePg_exists lBp_204 iPg_exists vPg_exists rfl rfl rfl rfl rfl rfl (Nat.le_of_ble_eq_true rfl) rfl k1
theorem bBp_alike_59 {a1 : Int32} {a2 : Int32} {r3 : Nat} {r4 : Nat} {s0 : Int32} (hX : X.length = 13) (hr3 : kQu r3) (hr4 : kQu r4) (h1 : narrow .boolean (.int s0) = .int s0) (k2 : P (.inl (some (.int s0)), (hpo X mem sw o e))) : QW d mBp_alike 59 (lBp_alike_59 a1 a2 r3 r4) [.int s0] (hpo X mem sw o e) P := by
  show QW d mBp_alike 59 [.val (.ref 13), .val (.int a1), .val (.int a2), .val (.ref r3), .val (.ref r4)] [.int s0] (hpo X mem sw o e) P
  exact QW.iret dBp_alike_59 rfl h1 k2
theorem dBp_sources_0 : decode mBp_sources.2.1 0 = .ok (.aload_n 0, 1) := by decide +kernel
theorem dBp_sources_1 : decode mBp_sources.2.1 1 = .ok (.getfield 67, 3) := by decide +kernel
theorem dBp_sources_4 : decode mBp_sources.2.1 4 = .ok (.aload_n 0, 1) := by decide +kernel
theorem dBp_sources_5 : decode mBp_sources.2.1 5 = .ok (.iload_n 1, 1) := by decide +kernel
theorem dBp_sources_6 : decode mBp_sources.2.1 6 = .ok (.invokevirtual 159, 3) := by decide +kernel
theorem dBp_sources_9 : decode mBp_sources.2.1 9 = .ok (.invokestatic 196, 3) := by decide +kernel
theorem dBp_sources_12 : decode mBp_sources.2.1 12 = .ok (.aload_n 0, 1) := by decide +kernel
theorem dBp_sources_13 : decode mBp_sources.2.1 13 = .ok (.getfield 12, 3) := by decide +kernel
theorem dBp_sources_16 : decode mBp_sources.2.1 16 = .ok (.invokevirtual 200, 3) := by decide +kernel
theorem dBp_sources_19 : decode mBp_sources.2.1 19 = .ok (.aload_n 0, 1) := by decide +kernel
theorem dBp_sources_20 : decode mBp_sources.2.1 20 = .ok (.getfield 67, 3) := by decide +kernel
theorem dBp_sources_23 : decode mBp_sources.2.1 23 = .ok (.getfield 208, 3) := by decide +kernel
theorem dBp_sources_26 : decode mBp_sources.2.1 26 = .ok (.ifCond .eq 7, 3) := by decide +kernel
theorem dBp_sources_29 : decode mBp_sources.2.1 29 = .ok (.iconst 0, 1) := by decide +kernel
theorem dBp_sources_30 : decode mBp_sources.2.1 30 = .ok (.goto 10, 3) := by decide +kernel
theorem dBp_sources_33 : decode mBp_sources.2.1 33 = .ok (.aload_n 0, 1) := by decide +kernel
theorem dBp_sources_34 : decode mBp_sources.2.1 34 = .ok (.getfield 67, 3) := by decide +kernel
theorem dBp_sources_37 : decode mBp_sources.2.1 37 = .ok (.getfield 212, 3) := by decide +kernel
theorem dBp_sources_40 : decode mBp_sources.2.1 40 = .ok (.ireturn, 1) := by decide +kernel
def lBp_sources_9 (a1 : Int32) : List Slot := [.val (.ref 13), .val (.int a1)]
def lBp_sources_12 (a1 : Int32) : List Slot := [.val (.ref 13), .val (.int a1)]
def lBp_sources_19 (a1 : Int32) : List Slot := [.val (.ref 13), .val (.int a1)]
theorem bBp_sources_0 {a1 : Int32} (hX : X.length = 13) (k1 : QW d mBp_questionAt 0 (qen 2 [.ref 13, .int a1]) [] (hpo X mem sw o e) (qcl d mBp_sources 6 9 (lBp_sources_9 a1) [.ref 170] P)) : QW (d + 1) mBp_sources 0 (qen 2 [.ref 13, .int a1]) [] (hpo X mem sw o e) P := by
  show QW (d + 1) mBp_sources 0 [.val (.ref 13), .val (.int a1)] [] (hpo X mem sw o e) P
  refine QW.aload_n dBp_sources_0 rfl rfl ?_
  refine MW.getr (r' := 170) hX dBp_sources_1 fBp_67 rfl rfl (by cases sw <;> rfl) ?_
  refine QW.aload_n dBp_sources_4 rfl rfl ?_
  refine QW.iload_n dBp_sources_5 rfl rfl ?_
  exact MW.calV (as := [.int a1]) (rest := [.ref 170]) hX dBp_sources_6 eBp_questionAt lBp_159 iBp_questionAt vBp_questionAt rfl rfl rfl rfl rfl rfl (Nat.le_of_ble_eq_true rfl) rfl k1
theorem bBp_sources_9 {a1 : Int32} {q1 : Nat} (hX : X.length = 13) (hq1 : kQu q1) (k1 : QW d mBp_onlyBlock 0 (qen 1 [.ref q1]) [] (hpo X mem sw o e) (qcl d mBp_sources 9 12 (lBp_sources_12 a1) [.ref 170] P)) : QW (d + 1) mBp_sources 9 (lBp_sources_9 a1) [.ref q1, .ref 170] (hpo X mem sw o e) P := by
  show QW (d + 1) mBp_sources 9 [.val (.ref 13), .val (.int a1)] [.ref q1, .ref 170] (hpo X mem sw o e) P
  exact MW.calS (as := [.ref q1]) (rest := [.ref 170]) dBp_sources_9 eBp_onlyBlock lBp_196 sBp_onlyBlock rfl rfl rfl (Nat.le_of_ble_eq_true rfl) rfl k1
theorem bBp_sources_12 {a1 : Int32} {q1 : Nat} (hX : X.length = 13) (hq1 : kBl q1) (k1 : QW d mNf_build 0 (qen 4 [.ref 170, .ref q1, .ref 14]) [] (hpo X mem sw o e) (qcl d mBp_sources 16 19 (lBp_sources_19 a1) [] P)) : QW (d + 1) mBp_sources 12 (lBp_sources_12 a1) [.ref q1, .ref 170] (hpo X mem sw o e) P := by
  show QW (d + 1) mBp_sources 12 [.val (.ref 13), .val (.int a1)] [.ref q1, .ref 170] (hpo X mem sw o e) P
  refine QW.aload_n dBp_sources_12 rfl rfl ?_
  refine MW.getr (r' := 14) hX dBp_sources_13 fBp_12 rfl rfl (by cases sw <;> rfl) ?_
  exact MW.calV (as := [.ref q1, .ref 14]) (rest := []) hX dBp_sources_16 eNf_build lBp_200 iNf_build vNf_build rfl rfl rfl rfl rfl rfl (Nat.le_of_ble_eq_true rfl) rfl k1
theorem bBp_sources_19 {a1 : Int32} (hX : X.length = 13) (k1 : ((mem 170 0) = 0) → P (.inl (some (.int (mem 170 7))), (hpo X mem sw o e))) (k2 : (¬ (mem 170 0) = 0) → P (.inl (some (.int 0)), (hpo X mem sw o e))) : QW d mBp_sources 19 (lBp_sources_19 a1) [] (hpo X mem sw o e) P := by
  show QW d mBp_sources 19 [.val (.ref 13), .val (.int a1)] [] (hpo X mem sw o e) P
  refine QW.aload_n dBp_sources_19 rfl rfl ?_
  refine MW.getr (r' := 170) hX dBp_sources_20 fBp_67 rfl rfl (by cases sw <;> rfl) ?_
  refine MW.geti hX dBp_sources_23 fBp_208 rfl rfl ?_
  refine QW.if_eq (tgt := 33) dBp_sources_26 (by decide) (fun z0 => ?_) (fun z0 => ?_)
  · refine QW.aload_n dBp_sources_33 rfl rfl ?_
    refine MW.getr (r' := 170) hX dBp_sources_34 fBp_67 rfl rfl (by cases sw <;> rfl) ?_
    refine MW.geti hX dBp_sources_37 fBp_212 rfl rfl ?_
    exact QW.iret dBp_sources_40 rfl rfl (k1 z0)
  · refine QW.iconst (v := 0) dBp_sources_29 (by decide) ?_
    refine QW.goto (tgt := 40) dBp_sources_30 (by decide) ?_
    exact QW.iret dBp_sources_40 rfl rfl (k2 z0)
theorem dBp_questionAt_0 : decode mBp_questionAt.2.1 0 = .ok (.iload_n 1, 1) := by decide +kernel
theorem dBp_questionAt_1 : decode mBp_questionAt.2.1 1 = .ok (.ifCond .lt 11, 3) := by decide +kernel
theorem dBp_questionAt_4 : decode mBp_questionAt.2.1 4 = .ok (.iload_n 1, 1) := by decide +kernel
theorem dBp_questionAt_5 : decode mBp_questionAt.2.1 5 = .ok (.aload_n 0, 1) := by decide +kernel
theorem dBp_questionAt_6 : decode mBp_questionAt.2.1 6 = .ok (.getfield 37, 3) := by decide +kernel
theorem dBp_questionAt_9 : decode mBp_questionAt.2.1 9 = .ok (.if_icmp .lt 13, 3) := by decide +kernel
theorem dBp_questionAt_12 : decode mBp_questionAt.2.1 12 = .ok (.new 81, 3) := by decide +kernel
theorem dBp_questionAt_15 : decode mBp_questionAt.2.1 15 = .ok (.dup, 1) := by decide +kernel
theorem dBp_questionAt_16 : decode mBp_questionAt.2.1 16 = .ok (.ldc 220, 2) := by decide +kernel
theorem dBp_questionAt_18 : decode mBp_questionAt.2.1 18 = .ok (.invokespecial 85, 3) := by decide +kernel
theorem dBp_questionAt_21 : decode mBp_questionAt.2.1 21 = .ok (.athrow, 1) := by decide +kernel
theorem dBp_questionAt_22 : decode mBp_questionAt.2.1 22 = .ok (.aload_n 0, 1) := by decide +kernel
theorem dBp_questionAt_23 : decode mBp_questionAt.2.1 23 = .ok (.getfield 32, 3) := by decide +kernel
theorem dBp_questionAt_26 : decode mBp_questionAt.2.1 26 = .ok (.iload_n 1, 1) := by decide +kernel
theorem dBp_questionAt_27 : decode mBp_questionAt.2.1 27 = .ok (.aaload, 1) := by decide +kernel
theorem dBp_questionAt_28 : decode mBp_questionAt.2.1 28 = .ok (.areturn, 1) := by decide +kernel
def lBp_questionAt_12 (a1 : Int32) : List Slot := [.val (.ref 13), .val (.int a1)]
theorem bBp_questionAt_0 {a1 : Int32} (hX : X.length = 13) (k1 : (a1 < 0) → QW d mBp_questionAt 12 (lBp_questionAt_12 a1) [] (hpo X mem sw o e) P) (h2 : (¬ a1 < 0) → (a1 < (mem 13 4)) → inx a1 5) (k3 : (¬ a1 < 0) → (a1 < (mem 13 4)) → P (.inl (some (.ref (36 + 24 * (Int32.toNatClampNeg a1)))), (hpo X mem sw o e))) (k4 : (¬ a1 < 0) → (¬ a1 < (mem 13 4)) → QW d mBp_questionAt 12 (lBp_questionAt_12 a1) [] (hpo X mem sw o e) P) : QW d mBp_questionAt 0 (qen 2 [.ref 13, .int a1]) [] (hpo X mem sw o e) P := by
  show QW d mBp_questionAt 0 [.val (.ref 13), .val (.int a1)] [] (hpo X mem sw o e) P
  refine QW.iload_n dBp_questionAt_0 rfl rfl ?_
  refine QW.if_lt (tgt := 12) dBp_questionAt_1 (by decide) (fun z0 => ?_) (fun z0 => ?_)
  · exact (k1 z0)
  · refine QW.iload_n dBp_questionAt_4 rfl rfl ?_
    refine QW.aload_n dBp_questionAt_5 rfl rfl ?_
    refine MW.geti hX dBp_questionAt_6 fBp_37 rfl rfl ?_
    refine QW.icmp_lt (tgt := 22) dBp_questionAt_9 (by decide) (fun z1 => ?_) (fun z1 => ?_)
    · refine QW.aload_n dBp_questionAt_22 rfl rfl ?_
      refine MW.getr (r' := 35) hX dBp_questionAt_23 fBp_32 rfl rfl (by cases sw <;> rfl) ?_
      refine QW.iload_n dBp_questionAt_26 rfl rfl ?_
      refine MW.aald (r' := (36 + 24 * (Int32.toNatClampNeg a1))) hX dBp_questionAt_27 rfl rfl (Nat.le_of_ble_eq_true rfl) (h2 z0 z1).1 (el_qu (h2 z0 z1).2) (sw_qu (h2 z0 z1).2) ?_
      exact QW.aret dBp_questionAt_28 rfl (k3 z0 z1)
    · exact (k4 z0 z1)
theorem bBp_questionAt_12 {a1 : Int32} (hX : X.length = 13) (c1 : e.length < 10000) (k2 : P (.inr (225 + e.length), hpo X mem sw o (e ++ [20]))) : QW d mBp_questionAt 12 (lBp_questionAt_12 a1) [] (hpo X mem sw o e) P := by
  show QW d mBp_questionAt 12 [.val (.ref 13), .val (.int a1)] [] (hpo X mem sw o e) P
  exact MW.thr hX tBp_220_85 dBp_questionAt_12 dBp_questionAt_15 dBp_questionAt_16 dBp_questionAt_18 dBp_questionAt_21 rfl c1 rfl k2
theorem dBp_onlyBlock_0 : decode mBp_onlyBlock.2.1 0 = .ok (.aload_n 0, 1) := by decide +kernel
theorem dBp_onlyBlock_1 : decode mBp_onlyBlock.2.1 1 = .ok (.getfield 222, 3) := by decide +kernel
theorem dBp_onlyBlock_4 : decode mBp_onlyBlock.2.1 4 = .ok (.iconst 1, 1) := by decide +kernel
theorem dBp_onlyBlock_5 : decode mBp_onlyBlock.2.1 5 = .ok (.if_icmp .eq 13, 3) := by decide +kernel
theorem dBp_onlyBlock_8 : decode mBp_onlyBlock.2.1 8 = .ok (.new 167, 3) := by decide +kernel
theorem dBp_onlyBlock_11 : decode mBp_onlyBlock.2.1 11 = .ok (.dup, 1) := by decide +kernel
theorem dBp_onlyBlock_12 : decode mBp_onlyBlock.2.1 12 = .ok (.ldc 225, 2) := by decide +kernel
theorem dBp_onlyBlock_14 : decode mBp_onlyBlock.2.1 14 = .ok (.invokespecial 171, 3) := by decide +kernel
theorem dBp_onlyBlock_17 : decode mBp_onlyBlock.2.1 17 = .ok (.athrow, 1) := by decide +kernel
theorem dBp_onlyBlock_18 : decode mBp_onlyBlock.2.1 18 = .ok (.aload_n 0, 1) := by decide +kernel
theorem dBp_onlyBlock_19 : decode mBp_onlyBlock.2.1 19 = .ok (.getfield 227, 3) := by decide +kernel
theorem dBp_onlyBlock_22 : decode mBp_onlyBlock.2.1 22 = .ok (.iconst 0, 1) := by decide +kernel
theorem dBp_onlyBlock_23 : decode mBp_onlyBlock.2.1 23 = .ok (.aaload, 1) := by decide +kernel
theorem dBp_onlyBlock_24 : decode mBp_onlyBlock.2.1 24 = .ok (.areturn, 1) := by decide +kernel
theorem bBp_onlyBlock_0 {r0 : Nat} (hX : X.length = 13) (hr0 : kQu r0) (k1 : ((mem r0 0) = 1) → P (.inl (some (.ref (r0 + 3 + 7 * (Int32.toNatClampNeg 0)))), (hpo X mem sw o e))) (c2 : e.length < 10000) (k3 : (¬ (mem r0 0) = 1) → P (.inr (225 + e.length), hpo X mem sw o (e ++ [22]))) : QW d mBp_onlyBlock 0 (qen 1 [.ref r0]) [] (hpo X mem sw o e) P := by
  show QW d mBp_onlyBlock 0 [.val (.ref r0)] [] (hpo X mem sw o e) P
  refine QW.aload_n dBp_onlyBlock_0 rfl rfl ?_
  refine MW.geti hX dBp_onlyBlock_1 fBp_222 (kQu_0 hr0) rfl ?_
  refine QW.iconst (v := 1) dBp_onlyBlock_4 (by decide) ?_
  refine QW.icmp_eq (tgt := 18) dBp_onlyBlock_5 (by decide) (fun z0 => ?_) (fun z0 => ?_)
  · refine QW.aload_n dBp_onlyBlock_18 rfl rfl ?_
    refine MW.getr (r' := (r0 + 1)) hX dBp_onlyBlock_19 fBp_227 (kQu_0 hr0) rfl (kQu_s1 hr0 _) ?_
    refine QW.iconst (v := 0) dBp_onlyBlock_22 (by decide) ?_
    refine MW.aald (r' := (r0 + 3 + 7 * (Int32.toNatClampNeg 0))) hX dBp_onlyBlock_23 (kQu_1 hr0) rfl (Nat.le_of_ble_eq_true rfl) (show inx 0 3 from ⟨by decide, by decide⟩).1 (el_bl (show inx 0 3 from ⟨by decide, by decide⟩).2) ((kQu_b hr0 _ (show inx 0 3 from ⟨by decide, by decide⟩).2).2 _) ?_
    exact QW.aret dBp_onlyBlock_24 rfl (k1 z0)
  · exact MW.thr hX tBp_225_171 dBp_onlyBlock_8 dBp_onlyBlock_11 dBp_onlyBlock_12 dBp_onlyBlock_14 dBp_onlyBlock_17 rfl c2 rfl (k3 z0)
theorem dBp_answerInto_0 : decode mBp_answerInto.2.1 0 = .ok (.aload_n 0, 1) := by decide +kernel
theorem dBp_answerInto_1 : decode mBp_answerInto.2.1 1 = .ok (.getfield 47, 3) := by decide +kernel
theorem dBp_answerInto_4 : decode mBp_answerInto.2.1 4 = .ok (.aload_n 0, 1) := by decide +kernel
theorem dBp_answerInto_5 : decode mBp_answerInto.2.1 5 = .ok (.getfield 58, 3) := by decide +kernel
theorem dBp_answerInto_8 : decode mBp_answerInto.2.1 8 = .ok (.aload_n 1, 1) := by decide +kernel
theorem dBp_answerInto_9 : decode mBp_answerInto.2.1 9 = .ok (.getfield 227, 3) := by decide +kernel
theorem dBp_answerInto_12 : decode mBp_answerInto.2.1 12 = .ok (.iconst 0, 1) := by decide +kernel
theorem dBp_answerInto_13 : decode mBp_answerInto.2.1 13 = .ok (.aaload, 1) := by decide +kernel
theorem dBp_answerInto_14 : decode mBp_answerInto.2.1 14 = .ok (.aload_n 0, 1) := by decide +kernel
theorem dBp_answerInto_15 : decode mBp_answerInto.2.1 15 = .ok (.getfield 12, 3) := by decide +kernel
theorem dBp_answerInto_18 : decode mBp_answerInto.2.1 18 = .ok (.invokevirtual 231, 3) := by decide +kernel
theorem dBp_answerInto_21 : decode mBp_answerInto.2.1 21 = .ok (.ifCond .ne 5, 3) := by decide +kernel
theorem dBp_answerInto_24 : decode mBp_answerInto.2.1 24 = .ok (.iconst 0, 1) := by decide +kernel
theorem dBp_answerInto_25 : decode mBp_answerInto.2.1 25 = .ok (.ireturn, 1) := by decide +kernel
theorem dBp_answerInto_26 : decode mBp_answerInto.2.1 26 = .ok (.iconst 1, 1) := by decide +kernel
theorem dBp_answerInto_27 : decode mBp_answerInto.2.1 27 = .ok (.istore_n 2, 1) := by decide +kernel
theorem dBp_answerInto_28 : decode mBp_answerInto.2.1 28 = .ok (.iload_n 2, 1) := by decide +kernel
theorem dBp_answerInto_29 : decode mBp_answerInto.2.1 29 = .ok (.aload_n 1, 1) := by decide +kernel
theorem dBp_answerInto_30 : decode mBp_answerInto.2.1 30 = .ok (.getfield 222, 3) := by decide +kernel
theorem dBp_answerInto_33 : decode mBp_answerInto.2.1 33 = .ok (.if_icmp .ge 57, 3) := by decide +kernel
theorem dBp_answerInto_36 : decode mBp_answerInto.2.1 36 = .ok (.aload_n 0, 1) := by decide +kernel
theorem dBp_answerInto_37 : decode mBp_answerInto.2.1 37 = .ok (.getfield 47, 3) := by decide +kernel
theorem dBp_answerInto_40 : decode mBp_answerInto.2.1 40 = .ok (.aload_n 0, 1) := by decide +kernel
theorem dBp_answerInto_41 : decode mBp_answerInto.2.1 41 = .ok (.getfield 61, 3) := by decide +kernel
theorem dBp_answerInto_44 : decode mBp_answerInto.2.1 44 = .ok (.aload_n 1, 1) := by decide +kernel
theorem dBp_answerInto_45 : decode mBp_answerInto.2.1 45 = .ok (.getfield 227, 3) := by decide +kernel
theorem dBp_answerInto_48 : decode mBp_answerInto.2.1 48 = .ok (.iload_n 2, 1) := by decide +kernel
theorem dBp_answerInto_49 : decode mBp_answerInto.2.1 49 = .ok (.aaload, 1) := by decide +kernel
theorem dBp_answerInto_50 : decode mBp_answerInto.2.1 50 = .ok (.aload_n 0, 1) := by decide +kernel
theorem dBp_answerInto_51 : decode mBp_answerInto.2.1 51 = .ok (.getfield 12, 3) := by decide +kernel
theorem dBp_answerInto_54 : decode mBp_answerInto.2.1 54 = .ok (.invokevirtual 231, 3) := by decide +kernel
theorem dBp_answerInto_57 : decode mBp_answerInto.2.1 57 = .ok (.ifCond .eq 25, 3) := by decide +kernel
theorem dBp_answerInto_60 : decode mBp_answerInto.2.1 60 = .ok (.aload_n 0, 1) := by decide +kernel
theorem dBp_answerInto_61 : decode mBp_answerInto.2.1 61 = .ok (.getfield 58, 3) := by decide +kernel
theorem dBp_answerInto_64 : decode mBp_answerInto.2.1 64 = .ok (.aload_n 1, 1) := by decide +kernel
theorem dBp_answerInto_65 : decode mBp_answerInto.2.1 65 = .ok (.getfield 235, 3) := by decide +kernel
theorem dBp_answerInto_68 : decode mBp_answerInto.2.1 68 = .ok (.iload_n 2, 1) := by decide +kernel
theorem dBp_answerInto_69 : decode mBp_answerInto.2.1 69 = .ok (.iconst 1, 1) := by decide +kernel
theorem dBp_answerInto_70 : decode mBp_answerInto.2.1 70 = .ok (.isub, 1) := by decide +kernel
theorem dBp_answerInto_71 : decode mBp_answerInto.2.1 71 = .ok (.iaload, 1) := by decide +kernel
theorem dBp_answerInto_72 : decode mBp_answerInto.2.1 72 = .ok (.aload_n 0, 1) := by decide +kernel
theorem dBp_answerInto_73 : decode mBp_answerInto.2.1 73 = .ok (.getfield 61, 3) := by decide +kernel
theorem dBp_answerInto_76 : decode mBp_answerInto.2.1 76 = .ok (.invokevirtual 238, 3) := by decide +kernel
theorem dBp_answerInto_79 : decode mBp_answerInto.2.1 79 = .ok (.ifCond .ne 5, 3) := by decide +kernel
theorem dBp_answerInto_82 : decode mBp_answerInto.2.1 82 = .ok (.iconst 0, 1) := by decide +kernel
theorem dBp_answerInto_83 : decode mBp_answerInto.2.1 83 = .ok (.ireturn, 1) := by decide +kernel
theorem dBp_answerInto_84 : decode mBp_answerInto.2.1 84 = .ok (.iinc 2 1, 3) := by decide +kernel
theorem dBp_answerInto_87 : decode mBp_answerInto.2.1 87 = .ok (.goto (-59), 3) := by decide +kernel
theorem dBp_answerInto_90 : decode mBp_answerInto.2.1 90 = .ok (.iconst 1, 1) := by decide +kernel
theorem dBp_answerInto_91 : decode mBp_answerInto.2.1 91 = .ok (.ireturn, 1) := by decide +kernel
def lBp_answerInto_21 (r1 : Nat) : List Slot := [.val (.ref 13), .val (.ref r1), .unset]
def lBp_answerInto_28 (a2 : Int32) (r1 : Nat) : List Slot := [.val (.ref 13), .val (.ref r1), .val (.int a2)]
def lBp_answerInto_57 (a2 : Int32) (r1 : Nat) : List Slot := [.val (.ref 13), .val (.ref r1), .val (.int a2)]
def lBp_answerInto_79 (a2 : Int32) (r1 : Nat) : List Slot := [.val (.ref 13), .val (.ref r1), .val (.int a2)]
theorem bBp_answerInto_0 {r1 : Nat} (hX : X.length = 13) (hr1 : kQu r1) (k1 : QW d mPlan_fill 0 (qen 4 [.ref 156, .ref (swp sw 164), .ref (r1 + 3 + 7 * (Int32.toNatClampNeg 0)), .ref 14]) [] (hpo X mem sw o e) (qcl d mBp_answerInto 18 21 (lBp_answerInto_21 r1) [] P)) : QW (d + 1) mBp_answerInto 0 (qen 3 [.ref 13, .ref r1]) [] (hpo X mem sw o e) P := by
  show QW (d + 1) mBp_answerInto 0 [.val (.ref 13), .val (.ref r1), .unset] [] (hpo X mem sw o e) P
  refine QW.aload_n dBp_answerInto_0 rfl rfl ?_
  refine MW.getr (r' := 156) hX dBp_answerInto_1 fBp_47 rfl rfl (by cases sw <;> rfl) ?_
  refine QW.aload_n dBp_answerInto_4 rfl rfl ?_
  refine MW.getr (r' := (swp sw 164)) hX dBp_answerInto_5 fBp_58 rfl rfl rfl ?_
  refine QW.aload_n dBp_answerInto_8 rfl rfl ?_
  refine MW.getr (r' := (r1 + 1)) hX dBp_answerInto_9 fBp_227 (kQu_0 hr1) rfl (kQu_s1 hr1 _) ?_
  refine QW.iconst (v := 0) dBp_answerInto_12 (by decide) ?_
  refine MW.aald (r' := (r1 + 3 + 7 * (Int32.toNatClampNeg 0))) hX dBp_answerInto_13 (kQu_1 hr1) rfl (Nat.le_of_ble_eq_true rfl) (show inx 0 3 from ⟨by decide, by decide⟩).1 (el_bl (show inx 0 3 from ⟨by decide, by decide⟩).2) ((kQu_b hr1 _ (show inx 0 3 from ⟨by decide, by decide⟩).2).2 _) ?_
  refine QW.aload_n dBp_answerInto_14 rfl rfl ?_
  refine MW.getr (r' := 14) hX dBp_answerInto_15 fBp_12 rfl rfl (by cases sw <;> rfl) ?_
  exact MW.calV (as := [.ref (swp sw 164), .ref (r1 + 3 + 7 * (Int32.toNatClampNeg 0)), .ref 14]) (rest := []) hX dBp_answerInto_18 ePlan_fill lBp_231 iPlan_fill vPlan_fill rfl rfl rfl rfl rfl rfl (Nat.le_of_ble_eq_true rfl) rfl k1
theorem bBp_answerInto_21 {r1 : Nat} {s0 : Int32} (hX : X.length = 13) (hr1 : kQu r1) (k1 : (¬ s0 = 0) → QW d mBp_answerInto 28 (lBp_answerInto_28 1 r1) [] (hpo X mem sw o e) P) (k2 : (s0 = 0) → P (.inl (some (.int 0)), (hpo X mem sw o e))) : QW d mBp_answerInto 21 (lBp_answerInto_21 r1) [.int s0] (hpo X mem sw o e) P := by
  show QW d mBp_answerInto 21 [.val (.ref 13), .val (.ref r1), .unset] [.int s0] (hpo X mem sw o e) P
  refine QW.if_ne (tgt := 26) dBp_answerInto_21 (by decide) (fun z0 => ?_) (fun z0 => ?_)
  · refine QW.iconst (v := 1) dBp_answerInto_26 (by decide) ?_
    refine QW.istore_n (ls' := [.val (.ref 13), .val (.ref r1), .val (.int 1)]) dBp_answerInto_27 rfl rfl ?_
    exact (k1 z0)
  · refine QW.iconst (v := 0) dBp_answerInto_24 (by decide) ?_
    exact QW.iret dBp_answerInto_25 rfl rfl (k2 z0)
theorem bBp_answerInto_28 {r1 : Nat} {a2 : Int32} (hX : X.length = 13) (hr1 : kQu r1) (k1 : ((mem r1 0) ≤ a2) → P (.inl (some (.int 1)), (hpo X mem sw o e))) (h2 : (¬ (mem r1 0) ≤ a2) → inx a2 3) (k3 : (¬ (mem r1 0) ≤ a2) → QW d mPlan_fill 0 (qen 4 [.ref 156, .ref 167, .ref (r1 + 3 + 7 * (Int32.toNatClampNeg a2)), .ref 14]) [] (hpo X mem sw o e) (qcl d mBp_answerInto 54 57 (lBp_answerInto_57 a2 r1) [] P)) : QW (d + 1) mBp_answerInto 28 (lBp_answerInto_28 a2 r1) [] (hpo X mem sw o e) P := by
  show QW (d + 1) mBp_answerInto 28 [.val (.ref 13), .val (.ref r1), .val (.int a2)] [] (hpo X mem sw o e) P
  refine QW.iload_n dBp_answerInto_28 rfl rfl ?_
  refine QW.aload_n dBp_answerInto_29 rfl rfl ?_
  refine MW.geti hX dBp_answerInto_30 fBp_222 (kQu_0 hr1) rfl ?_
  refine QW.icmp_ge (tgt := 90) dBp_answerInto_33 (by decide) (fun z0 => ?_) (fun z0 => ?_)
  · refine QW.iconst (v := 1) dBp_answerInto_90 (by decide) ?_
    exact QW.iret dBp_answerInto_91 rfl rfl (k1 z0)
  · refine QW.aload_n dBp_answerInto_36 rfl rfl ?_
    refine MW.getr (r' := 156) hX dBp_answerInto_37 fBp_47 rfl rfl (by cases sw <;> rfl) ?_
    refine QW.aload_n dBp_answerInto_40 rfl rfl ?_
    refine MW.getr (r' := 167) hX dBp_answerInto_41 fBp_61 rfl rfl (by cases sw <;> rfl) ?_
    refine QW.aload_n dBp_answerInto_44 rfl rfl ?_
    refine MW.getr (r' := (r1 + 1)) hX dBp_answerInto_45 fBp_227 (kQu_0 hr1) rfl (kQu_s1 hr1 _) ?_
    refine QW.iload_n dBp_answerInto_48 rfl rfl ?_
    refine MW.aald (r' := (r1 + 3 + 7 * (Int32.toNatClampNeg a2))) hX dBp_answerInto_49 (kQu_1 hr1) rfl (Nat.le_of_ble_eq_true rfl) (h2 z0).1 (el_bl (h2 z0).2) ((kQu_b hr1 _ (h2 z0).2).2 _) ?_
    refine QW.aload_n dBp_answerInto_50 rfl rfl ?_
    refine MW.getr (r' := 14) hX dBp_answerInto_51 fBp_12 rfl rfl (by cases sw <;> rfl) ?_
    exact MW.calV (as := [.ref 167, .ref (r1 + 3 + 7 * (Int32.toNatClampNeg a2)), .ref 14]) (rest := []) hX dBp_answerInto_54 ePlan_fill lBp_231 iPlan_fill vPlan_fill rfl rfl rfl rfl rfl rfl (Nat.le_of_ble_eq_true rfl) rfl (k3 z0)
theorem bBp_answerInto_57 {r1 : Nat} {a2 : Int32} {s0 : Int32} (hX : X.length = 13) (hr1 : kQu r1) (k1 : (s0 = 0) → P (.inl (some (.int 0)), (hpo X mem sw o e))) (h2 : (¬ s0 = 0) → inx (a2 - 1) 2) (k3 : (¬ s0 = 0) → QW d mBag_join 0 (qen 7 [.ref (swp sw 164), .int (mem (r1 + 2) (Int32.toNatClampNeg (a2 - 1))), .ref 167]) [] (hpo X mem sw o e) (qcl d mBp_answerInto 76 79 (lBp_answerInto_79 a2 r1) [] P)) : QW (d + 1) mBp_answerInto 57 (lBp_answerInto_57 a2 r1) [.int s0] (hpo X mem sw o e) P := by
  show QW (d + 1) mBp_answerInto 57 [.val (.ref 13), .val (.ref r1), .val (.int a2)] [.int s0] (hpo X mem sw o e) P
  refine QW.if_eq (tgt := 82) dBp_answerInto_57 (by decide) (fun z0 => ?_) (fun z0 => ?_)
  · refine QW.iconst (v := 0) dBp_answerInto_82 (by decide) ?_
    exact QW.iret dBp_answerInto_83 rfl rfl (k1 z0)
  · refine QW.aload_n dBp_answerInto_60 rfl rfl ?_
    refine MW.getr (r' := (swp sw 164)) hX dBp_answerInto_61 fBp_58 rfl rfl rfl ?_
    refine QW.aload_n dBp_answerInto_64 rfl rfl ?_
    refine MW.getr (r' := (r1 + 2)) hX dBp_answerInto_65 fBp_235 (kQu_0 hr1) rfl (kQu_s2 hr1 _) ?_
    refine QW.iload_n dBp_answerInto_68 rfl rfl ?_
    refine QW.iconst (v := 1) dBp_answerInto_69 (by decide) ?_
    refine QW.isub dBp_answerInto_70 ?_
    refine MW.iald hX dBp_answerInto_71 (kQu_2 hr1) (h2 z0).1 (rep_get (h2 z0).2) ?_
    refine QW.aload_n dBp_answerInto_72 rfl rfl ?_
    refine MW.getr (r' := 167) hX dBp_answerInto_73 fBp_61 rfl rfl (by cases sw <;> rfl) ?_
    exact MW.calV (as := [.int (mem (r1 + 2) (Int32.toNatClampNeg (a2 - 1))), .ref 167]) (rest := []) hX dBp_answerInto_76 eBag_join lBp_238 iBag_join vBag_join rfl rfl (kBag_0 kBag_sw164) rfl rfl rfl (Nat.le_of_ble_eq_true rfl) rfl (k3 z0)
theorem bBp_answerInto_79 {r1 : Nat} {a2 : Int32} {s0 : Int32} (hX : X.length = 13) (hr1 : kQu r1) (k1 : (¬ s0 = 0) → QW d mBp_answerInto 28 (lBp_answerInto_28 (a2 + 1) r1) [] (hpo X mem sw o e) P) (k2 : (s0 = 0) → P (.inl (some (.int 0)), (hpo X mem sw o e))) : QW d mBp_answerInto 79 (lBp_answerInto_79 a2 r1) [.int s0] (hpo X mem sw o e) P := by
  show QW d mBp_answerInto 79 [.val (.ref 13), .val (.ref r1), .val (.int a2)] [.int s0] (hpo X mem sw o e) P
  refine QW.if_ne (tgt := 84) dBp_answerInto_79 (by decide) (fun z0 => ?_) (fun z0 => ?_)
  · refine MW.iinc (c := 1) (ls' := [.val (.ref 13), .val (.ref r1), .val (.int (a2 + 1))]) dBp_answerInto_84 (by decide) rfl rfl ?_
    refine QW.goto (tgt := 28) dBp_answerInto_87 (by decide) ?_
    exact (k1 z0)
  · refine QW.iconst (v := 0) dBp_answerInto_82 (by decide) ?_
    exact QW.iret dBp_answerInto_83 rfl rfl (k2 z0)
theorem dBag_clear_0 : decode mBag_clear.2.1 0 = .ok (.aload_n 0, 1) := by decide +kernel
theorem dBag_clear_1 : decode mBag_clear.2.1 1 = .ok (.iload_n 1, 1) := by decide +kernel
theorem dBag_clear_2 : decode mBag_clear.2.1 2 = .ok (.putfield 18, 3) := by decide +kernel
theorem dBag_clear_5 : decode mBag_clear.2.1 5 = .ok (.aload_n 0, 1) := by decide +kernel
theorem dBag_clear_6 : decode mBag_clear.2.1 6 = .ok (.iconst 0, 1) := by decide +kernel
theorem dBag_clear_7 : decode mBag_clear.2.1 7 = .ok (.putfield 22, 3) := by decide +kernel
theorem dBag_clear_10 : decode mBag_clear.2.1 10 = .ok (.return_, 1) := by decide +kernel
theorem bBag_clear_0 {t : Nat} {a1 : Int32} (hX : X.length = 13) (ht : kBag t) (k1 : P (.inl none, (hpo X (mup (mup mem t 0 a1) t 1 0) sw o e))) : QW d mBag_clear 0 (qen 2 [.ref t, .int a1]) [] (hpo X mem sw o e) P := by
  show QW d mBag_clear 0 [.val (.ref t), .val (.int a1)] [] (hpo X mem sw o e) P
  refine QW.aload_n dBag_clear_0 rfl rfl ?_
  refine QW.iload_n dBag_clear_1 rfl rfl ?_
  refine MW.puti hX dBag_clear_2 fBag_18 (kBag_0 ht) rfl rfl ?_
  refine QW.aload_n dBag_clear_5 rfl rfl ?_
  refine QW.iconst (v := 0) dBag_clear_6 (by decide) ?_
  refine MW.puti hX dBag_clear_7 fBag_22 (kBag_0 ht) rfl rfl ?_
  exact QW.vret dBag_clear_10 rfl k1
theorem dBag_has_0 : decode mBag_has.2.1 0 = .ok (.iload_n 1, 1) := by decide +kernel
theorem dBag_has_1 : decode mBag_has.2.1 1 = .ok (.ifCond .lt 15, 3) := by decide +kernel
theorem dBag_has_4 : decode mBag_has.2.1 4 = .ok (.iload_n 1, 1) := by decide +kernel
theorem dBag_has_5 : decode mBag_has.2.1 5 = .ok (.aload_n 0, 1) := by decide +kernel
theorem dBag_has_6 : decode mBag_has.2.1 6 = .ok (.getfield 22, 3) := by decide +kernel
theorem dBag_has_9 : decode mBag_has.2.1 9 = .ok (.if_icmp .ge 7, 3) := by decide +kernel
theorem dBag_has_12 : decode mBag_has.2.1 12 = .ok (.iconst 1, 1) := by decide +kernel
theorem dBag_has_13 : decode mBag_has.2.1 13 = .ok (.goto 4, 3) := by decide +kernel
theorem dBag_has_16 : decode mBag_has.2.1 16 = .ok (.iconst 0, 1) := by decide +kernel
theorem dBag_has_17 : decode mBag_has.2.1 17 = .ok (.ireturn, 1) := by decide +kernel
theorem bBag_has_0 {t : Nat} {a1 : Int32} (hX : X.length = 13) (ht : kBag t) (k1 : (a1 < 0) → P (.inl (some (.int 0)), (hpo X mem sw o e))) (k2 : (¬ a1 < 0) → ((mem t 1) ≤ a1) → P (.inl (some (.int 0)), (hpo X mem sw o e))) (k3 : (¬ a1 < 0) → (¬ (mem t 1) ≤ a1) → P (.inl (some (.int 1)), (hpo X mem sw o e))) : QW d mBag_has 0 (qen 2 [.ref t, .int a1]) [] (hpo X mem sw o e) P := by
  show QW d mBag_has 0 [.val (.ref t), .val (.int a1)] [] (hpo X mem sw o e) P
  refine QW.iload_n dBag_has_0 rfl rfl ?_
  refine QW.if_lt (tgt := 16) dBag_has_1 (by decide) (fun z0 => ?_) (fun z0 => ?_)
  · refine QW.iconst (v := 0) dBag_has_16 (by decide) ?_
    exact QW.iret dBag_has_17 rfl rfl (k1 z0)
  · refine QW.iload_n dBag_has_4 rfl rfl ?_
    refine QW.aload_n dBag_has_5 rfl rfl ?_
    refine MW.geti hX dBag_has_6 fBag_22 (kBag_0 ht) rfl ?_
    refine QW.icmp_ge (tgt := 16) dBag_has_9 (by decide) (fun z1 => ?_) (fun z1 => ?_)
    · refine QW.iconst (v := 0) dBag_has_16 (by decide) ?_
      exact QW.iret dBag_has_17 rfl rfl (k2 z0 z1)
    · refine QW.iconst (v := 1) dBag_has_12 (by decide) ?_
      refine QW.goto (tgt := 17) dBag_has_13 (by decide) ?_
      exact QW.iret dBag_has_17 rfl rfl (k3 z0 z1)
theorem dBag_sum_0 : decode mBag_sum.2.1 0 = .ok (.iconst 0, 1) := by decide +kernel
theorem dBag_sum_1 : decode mBag_sum.2.1 1 = .ok (.istore_n 1, 1) := by decide +kernel
theorem dBag_sum_2 : decode mBag_sum.2.1 2 = .ok (.iconst 0, 1) := by decide +kernel
theorem dBag_sum_3 : decode mBag_sum.2.1 3 = .ok (.istore_n 2, 1) := by decide +kernel
theorem dBag_sum_4 : decode mBag_sum.2.1 4 = .ok (.iload_n 2, 1) := by decide +kernel
theorem dBag_sum_5 : decode mBag_sum.2.1 5 = .ok (.aload_n 0, 1) := by decide +kernel
theorem dBag_sum_6 : decode mBag_sum.2.1 6 = .ok (.getfield 22, 3) := by decide +kernel
theorem dBag_sum_9 : decode mBag_sum.2.1 9 = .ok (.if_icmp .ge 18, 3) := by decide +kernel
theorem dBag_sum_12 : decode mBag_sum.2.1 12 = .ok (.iload_n 1, 1) := by decide +kernel
theorem dBag_sum_13 : decode mBag_sum.2.1 13 = .ok (.aload_n 0, 1) := by decide +kernel
theorem dBag_sum_14 : decode mBag_sum.2.1 14 = .ok (.getfield 15, 3) := by decide +kernel
theorem dBag_sum_17 : decode mBag_sum.2.1 17 = .ok (.iload_n 2, 1) := by decide +kernel
theorem dBag_sum_18 : decode mBag_sum.2.1 18 = .ok (.iaload, 1) := by decide +kernel
theorem dBag_sum_19 : decode mBag_sum.2.1 19 = .ok (.iadd, 1) := by decide +kernel
theorem dBag_sum_20 : decode mBag_sum.2.1 20 = .ok (.istore_n 1, 1) := by decide +kernel
theorem dBag_sum_21 : decode mBag_sum.2.1 21 = .ok (.iinc 2 1, 3) := by decide +kernel
theorem dBag_sum_24 : decode mBag_sum.2.1 24 = .ok (.goto (-20), 3) := by decide +kernel
theorem dBag_sum_27 : decode mBag_sum.2.1 27 = .ok (.iload_n 1, 1) := by decide +kernel
theorem dBag_sum_28 : decode mBag_sum.2.1 28 = .ok (.ireturn, 1) := by decide +kernel
def lBag_sum_4 (a1 : Int32) (a2 : Int32) (t : Nat) : List Slot := [.val (.ref t), .val (.int a1), .val (.int a2)]
theorem bBag_sum_0 {t : Nat} (hX : X.length = 13) (ht : kBag t) (k1 : QW d mBag_sum 4 (lBag_sum_4 0 0 t) [] (hpo X mem sw o e) P) : QW d mBag_sum 0 (qen 3 [.ref t]) [] (hpo X mem sw o e) P := by
  show QW d mBag_sum 0 [.val (.ref t), .unset, .unset] [] (hpo X mem sw o e) P
  refine QW.iconst (v := 0) dBag_sum_0 (by decide) ?_
  refine QW.istore_n (ls' := [.val (.ref t), .val (.int 0), .unset]) dBag_sum_1 rfl rfl ?_
  refine QW.iconst (v := 0) dBag_sum_2 (by decide) ?_
  refine QW.istore_n (ls' := [.val (.ref t), .val (.int 0), .val (.int 0)]) dBag_sum_3 rfl rfl ?_
  exact k1
theorem bBag_sum_4 {t : Nat} {a1 : Int32} {a2 : Int32} (hX : X.length = 13) (ht : kBag t) (k1 : ((mem t 1) ≤ a2) → P (.inl (some (.int a1)), (hpo X mem sw o e))) (h2 : (¬ (mem t 1) ≤ a2) → inx a2 64) (k3 : (¬ (mem t 1) ≤ a2) → QW d mBag_sum 4 (lBag_sum_4 (a1 + (mem (t + 2) (Int32.toNatClampNeg a2))) (a2 + 1) t) [] (hpo X mem sw o e) P) : QW d mBag_sum 4 (lBag_sum_4 a1 a2 t) [] (hpo X mem sw o e) P := by
  show QW d mBag_sum 4 [.val (.ref t), .val (.int a1), .val (.int a2)] [] (hpo X mem sw o e) P
  refine QW.iload_n dBag_sum_4 rfl rfl ?_
  refine QW.aload_n dBag_sum_5 rfl rfl ?_
  refine MW.geti hX dBag_sum_6 fBag_22 (kBag_0 ht) rfl ?_
  refine QW.icmp_ge (tgt := 27) dBag_sum_9 (by decide) (fun z0 => ?_) (fun z0 => ?_)
  · refine QW.iload_n dBag_sum_27 rfl rfl ?_
    exact QW.iret dBag_sum_28 rfl rfl (k1 z0)
  · refine QW.iload_n dBag_sum_12 rfl rfl ?_
    refine QW.aload_n dBag_sum_13 rfl rfl ?_
    refine MW.getr (r' := (t + 2)) hX dBag_sum_14 fBag_15 (kBag_0 ht) rfl (kBag_s2 ht _) ?_
    refine QW.iload_n dBag_sum_17 rfl rfl ?_
    refine MW.iald hX dBag_sum_18 (kBag_2 ht) (h2 z0).1 (rep_get (h2 z0).2) ?_
    refine QW.iadd dBag_sum_19 ?_
    refine QW.istore_n (ls' := [.val (.ref t), .val (.int (a1 + (mem (t + 2) (Int32.toNatClampNeg a2)))), .val (.int a2)]) dBag_sum_20 rfl rfl ?_
    refine MW.iinc (c := 1) (ls' := [.val (.ref t), .val (.int (a1 + (mem (t + 2) (Int32.toNatClampNeg a2)))), .val (.int (a2 + 1))]) dBag_sum_21 (by decide) rfl rfl ?_
    refine QW.goto (tgt := 4) dBag_sum_24 (by decide) ?_
    exact (k3 z0)
theorem dBag_countEachOnce_0 : decode mBag_countEachOnce.2.1 0 = .ok (.iconst 0, 1) := by decide +kernel
theorem dBag_countEachOnce_1 : decode mBag_countEachOnce.2.1 1 = .ok (.istore_n 1, 1) := by decide +kernel
theorem dBag_countEachOnce_2 : decode mBag_countEachOnce.2.1 2 = .ok (.iload_n 1, 1) := by decide +kernel
theorem dBag_countEachOnce_3 : decode mBag_countEachOnce.2.1 3 = .ok (.aload_n 0, 1) := by decide +kernel
theorem dBag_countEachOnce_4 : decode mBag_countEachOnce.2.1 4 = .ok (.getfield 22, 3) := by decide +kernel
theorem dBag_countEachOnce_7 : decode mBag_countEachOnce.2.1 7 = .ok (.if_icmp .ge 16, 3) := by decide +kernel
theorem dBag_countEachOnce_10 : decode mBag_countEachOnce.2.1 10 = .ok (.aload_n 0, 1) := by decide +kernel
theorem dBag_countEachOnce_11 : decode mBag_countEachOnce.2.1 11 = .ok (.getfield 15, 3) := by decide +kernel
theorem dBag_countEachOnce_14 : decode mBag_countEachOnce.2.1 14 = .ok (.iload_n 1, 1) := by decide +kernel
theorem dBag_countEachOnce_15 : decode mBag_countEachOnce.2.1 15 = .ok (.iconst 1, 1) := by decide +kernel
theorem dBag_countEachOnce_16 : decode mBag_countEachOnce.2.1 16 = .ok (.iastore, 1) := by decide +kernel
theorem dBag_countEachOnce_17 : decode mBag_countEachOnce.2.1 17 = .ok (.iinc 1 1, 3) := by decide +kernel
theorem dBag_countEachOnce_20 : decode mBag_countEachOnce.2.1 20 = .ok (.goto (-18), 3) := by decide +kernel
theorem dBag_countEachOnce_23 : decode mBag_countEachOnce.2.1 23 = .ok (.return_, 1) := by decide +kernel
def lBag_countEachOnce_2 (a1 : Int32) (t : Nat) : List Slot := [.val (.ref t), .val (.int a1)]
theorem bBag_countEachOnce_0 {t : Nat} (hX : X.length = 13) (ht : kBag t) (k1 : QW d mBag_countEachOnce 2 (lBag_countEachOnce_2 0 t) [] (hpo X mem sw o e) P) : QW d mBag_countEachOnce 0 (qen 2 [.ref t]) [] (hpo X mem sw o e) P := by
  show QW d mBag_countEachOnce 0 [.val (.ref t), .unset] [] (hpo X mem sw o e) P
  refine QW.iconst (v := 0) dBag_countEachOnce_0 (by decide) ?_
  refine QW.istore_n (ls' := [.val (.ref t), .val (.int 0)]) dBag_countEachOnce_1 rfl rfl ?_
  exact k1
theorem bBag_countEachOnce_2 {t : Nat} {a1 : Int32} (hX : X.length = 13) (ht : kBag t) (k1 : ((mem t 1) ≤ a1) → P (.inl none, (hpo X mem sw o e))) (h2 : (¬ (mem t 1) ≤ a1) → inx a1 64) (k3 : (¬ (mem t 1) ≤ a1) → QW d mBag_countEachOnce 2 (lBag_countEachOnce_2 (a1 + 1) t) [] (hpo X (mup mem (t + 2) (Int32.toNatClampNeg a1) 1) sw o e) P) : QW d mBag_countEachOnce 2 (lBag_countEachOnce_2 a1 t) [] (hpo X mem sw o e) P := by
  show QW d mBag_countEachOnce 2 [.val (.ref t), .val (.int a1)] [] (hpo X mem sw o e) P
  refine QW.iload_n dBag_countEachOnce_2 rfl rfl ?_
  refine QW.aload_n dBag_countEachOnce_3 rfl rfl ?_
  refine MW.geti hX dBag_countEachOnce_4 fBag_22 (kBag_0 ht) rfl ?_
  refine QW.icmp_ge (tgt := 23) dBag_countEachOnce_7 (by decide) (fun z0 => ?_) (fun z0 => ?_)
  · exact QW.vret dBag_countEachOnce_23 rfl (k1 z0)
  · refine QW.aload_n dBag_countEachOnce_10 rfl rfl ?_
    refine MW.getr (r' := (t + 2)) hX dBag_countEachOnce_11 fBag_15 (kBag_0 ht) rfl (kBag_s2 ht _) ?_
    refine QW.iload_n dBag_countEachOnce_14 rfl rfl ?_
    refine QW.iconst (v := 1) dBag_countEachOnce_15 (by decide) ?_
    refine MW.iast hX dBag_countEachOnce_16 (kBag_2 ht) (h2 z0).1 (rep_get (h2 z0).2) ?_
    refine MW.iinc (c := 1) (ls' := [.val (.ref t), .val (.int (a1 + 1))]) dBag_countEachOnce_17 (by decide) rfl rfl ?_
    refine QW.goto (tgt := 2) dBag_countEachOnce_20 (by decide) ?_
    exact (k3 z0)
theorem dBag_addAll_0 : decode mBag_addAll.2.1 0 = .ok (.iconst 0, 1) := by decide +kernel
theorem dBag_addAll_1 : decode mBag_addAll.2.1 1 = .ok (.istore_n 2, 1) := by decide +kernel
theorem dBag_addAll_2 : decode mBag_addAll.2.1 2 = .ok (.iload_n 2, 1) := by decide +kernel
theorem dBag_addAll_3 : decode mBag_addAll.2.1 3 = .ok (.aload_n 1, 1) := by decide +kernel
theorem dBag_addAll_4 : decode mBag_addAll.2.1 4 = .ok (.getfield 22, 3) := by decide +kernel
theorem dBag_addAll_7 : decode mBag_addAll.2.1 7 = .ok (.if_icmp .ge 31, 3) := by decide +kernel
theorem dBag_addAll_10 : decode mBag_addAll.2.1 10 = .ok (.aload_n 0, 1) := by decide +kernel
theorem dBag_addAll_11 : decode mBag_addAll.2.1 11 = .ok (.aload_n 1, 1) := by decide +kernel
theorem dBag_addAll_12 : decode mBag_addAll.2.1 12 = .ok (.getfield 9, 3) := by decide +kernel
theorem dBag_addAll_15 : decode mBag_addAll.2.1 15 = .ok (.iload_n 2, 1) := by decide +kernel
theorem dBag_addAll_16 : decode mBag_addAll.2.1 16 = .ok (.iconst 3, 1) := by decide +kernel
theorem dBag_addAll_17 : decode mBag_addAll.2.1 17 = .ok (.imul, 1) := by decide +kernel
theorem dBag_addAll_18 : decode mBag_addAll.2.1 18 = .ok (.aload_n 1, 1) := by decide +kernel
theorem dBag_addAll_19 : decode mBag_addAll.2.1 19 = .ok (.getfield 15, 3) := by decide +kernel
theorem dBag_addAll_22 : decode mBag_addAll.2.1 22 = .ok (.iload_n 2, 1) := by decide +kernel
theorem dBag_addAll_23 : decode mBag_addAll.2.1 23 = .ok (.iaload, 1) := by decide +kernel
theorem dBag_addAll_24 : decode mBag_addAll.2.1 24 = .ok (.invokevirtual 52, 3) := by decide +kernel
theorem dBag_addAll_27 : decode mBag_addAll.2.1 27 = .ok (.ifCond .ne 5, 3) := by decide +kernel
theorem dBag_addAll_30 : decode mBag_addAll.2.1 30 = .ok (.iconst 0, 1) := by decide +kernel
theorem dBag_addAll_31 : decode mBag_addAll.2.1 31 = .ok (.ireturn, 1) := by decide +kernel
theorem dBag_addAll_32 : decode mBag_addAll.2.1 32 = .ok (.iinc 2 1, 3) := by decide +kernel
theorem dBag_addAll_35 : decode mBag_addAll.2.1 35 = .ok (.goto (-33), 3) := by decide +kernel
theorem dBag_addAll_38 : decode mBag_addAll.2.1 38 = .ok (.iconst 1, 1) := by decide +kernel
theorem dBag_addAll_39 : decode mBag_addAll.2.1 39 = .ok (.ireturn, 1) := by decide +kernel
def lBag_addAll_2 (a2 : Int32) (t : Nat) (r1 : Nat) : List Slot := [.val (.ref t), .val (.ref r1), .val (.int a2)]
def lBag_addAll_27 (a2 : Int32) (t : Nat) (r1 : Nat) : List Slot := [.val (.ref t), .val (.ref r1), .val (.int a2)]
theorem bBag_addAll_0 {t : Nat} {r1 : Nat} (hX : X.length = 13) (ht : kBag t) (hr1 : kBag r1) (k1 : QW d mBag_addAll 2 (lBag_addAll_2 0 t r1) [] (hpo X mem sw o e) P) : QW d mBag_addAll 0 (qen 3 [.ref t, .ref r1]) [] (hpo X mem sw o e) P := by
  show QW d mBag_addAll 0 [.val (.ref t), .val (.ref r1), .unset] [] (hpo X mem sw o e) P
  refine QW.iconst (v := 0) dBag_addAll_0 (by decide) ?_
  refine QW.istore_n (ls' := [.val (.ref t), .val (.ref r1), .val (.int 0)]) dBag_addAll_1 rfl rfl ?_
  exact k1
theorem bBag_addAll_2 {t : Nat} {r1 : Nat} {a2 : Int32} (hX : X.length = 13) (ht : kBag t) (hr1 : kBag r1) (k1 : ((mem r1 1) ≤ a2) → P (.inl (some (.int 1)), (hpo X mem sw o e))) (h2 : (¬ (mem r1 1) ≤ a2) → inx a2 64) (k3 : (¬ (mem r1 1) ≤ a2) → QW d mBag_add 0 (qen 5 [.ref t, .ref (r1 + 1), .int (a2 * 3), .int (mem (r1 + 2) (Int32.toNatClampNeg a2))]) [] (hpo X mem sw o e) (qcl d mBag_addAll 24 27 (lBag_addAll_27 a2 t r1) [] P)) : QW (d + 1) mBag_addAll 2 (lBag_addAll_2 a2 t r1) [] (hpo X mem sw o e) P := by
  show QW (d + 1) mBag_addAll 2 [.val (.ref t), .val (.ref r1), .val (.int a2)] [] (hpo X mem sw o e) P
  refine QW.iload_n dBag_addAll_2 rfl rfl ?_
  refine QW.aload_n dBag_addAll_3 rfl rfl ?_
  refine MW.geti hX dBag_addAll_4 fBag_22 (kBag_0 hr1) rfl ?_
  refine QW.icmp_ge (tgt := 38) dBag_addAll_7 (by decide) (fun z0 => ?_) (fun z0 => ?_)
  · refine QW.iconst (v := 1) dBag_addAll_38 (by decide) ?_
    exact QW.iret dBag_addAll_39 rfl rfl (k1 z0)
  · refine QW.aload_n dBag_addAll_10 rfl rfl ?_
    refine QW.aload_n dBag_addAll_11 rfl rfl ?_
    refine MW.getr (r' := (r1 + 1)) hX dBag_addAll_12 fBag_9 (kBag_0 hr1) rfl (kBag_s1 hr1 _) ?_
    refine QW.iload_n dBag_addAll_15 rfl rfl ?_
    refine QW.iconst (v := 3) dBag_addAll_16 (by decide) ?_
    refine QW.imul dBag_addAll_17 ?_
    refine QW.aload_n dBag_addAll_18 rfl rfl ?_
    refine MW.getr (r' := (r1 + 2)) hX dBag_addAll_19 fBag_15 (kBag_0 hr1) rfl (kBag_s2 hr1 _) ?_
    refine QW.iload_n dBag_addAll_22 rfl rfl ?_
    refine MW.iald hX dBag_addAll_23 (kBag_2 hr1) (h2 z0).1 (rep_get (h2 z0).2) ?_
    exact MW.calV (as := [.ref (r1 + 1), .int (a2 * 3), .int (mem (r1 + 2) (Int32.toNatClampNeg a2))]) (rest := []) hX dBag_addAll_24 eBag_add lBag_52 iBag_add vBag_add rfl rfl (kBag_0 ht) rfl rfl rfl (Nat.le_of_ble_eq_true rfl) rfl (k3 z0)
theorem bBag_addAll_27 {t : Nat} {r1 : Nat} {a2 : Int32} {s0 : Int32} (hX : X.length = 13) (ht : kBag t) (hr1 : kBag r1) (k1 : (¬ s0 = 0) → QW d mBag_addAll 2 (lBag_addAll_2 (a2 + 1) t r1) [] (hpo X mem sw o e) P) (k2 : (s0 = 0) → P (.inl (some (.int 0)), (hpo X mem sw o e))) : QW d mBag_addAll 27 (lBag_addAll_27 a2 t r1) [.int s0] (hpo X mem sw o e) P := by
  show QW d mBag_addAll 27 [.val (.ref t), .val (.ref r1), .val (.int a2)] [.int s0] (hpo X mem sw o e) P
  refine QW.if_ne (tgt := 32) dBag_addAll_27 (by decide) (fun z0 => ?_) (fun z0 => ?_)
  · refine MW.iinc (c := 1) (ls' := [.val (.ref t), .val (.ref r1), .val (.int (a2 + 1))]) dBag_addAll_32 (by decide) rfl rfl ?_
    refine QW.goto (tgt := 2) dBag_addAll_35 (by decide) ?_
    exact (k1 z0)
  · refine QW.iconst (v := 0) dBag_addAll_30 (by decide) ?_
    exact QW.iret dBag_addAll_31 rfl rfl (k2 z0)
theorem dBag_countOf_0 : decode mBag_countOf.2.1 0 = .ok (.aload_n 0, 1) := by decide +kernel
theorem dBag_countOf_1 : decode mBag_countOf.2.1 1 = .ok (.aload_n 1, 1) := by decide +kernel
theorem dBag_countOf_2 : decode mBag_countOf.2.1 2 = .ok (.iload_n 2, 1) := by decide +kernel
theorem dBag_countOf_3 : decode mBag_countOf.2.1 3 = .ok (.invokevirtual 25, 3) := by decide +kernel
theorem dBag_countOf_6 : decode mBag_countOf.2.1 6 = .ok (.istore_n 3, 1) := by decide +kernel
theorem dBag_countOf_7 : decode mBag_countOf.2.1 7 = .ok (.iload_n 3, 1) := by decide +kernel
theorem dBag_countOf_8 : decode mBag_countOf.2.1 8 = .ok (.aload_n 0, 1) := by decide +kernel
theorem dBag_countOf_9 : decode mBag_countOf.2.1 9 = .ok (.getfield 22, 3) := by decide +kernel
theorem dBag_countOf_12 : decode mBag_countOf.2.1 12 = .ok (.if_icmp .ge 22, 3) := by decide +kernel
theorem dBag_countOf_15 : decode mBag_countOf.2.1 15 = .ok (.aload_n 0, 1) := by decide +kernel
theorem dBag_countOf_16 : decode mBag_countOf.2.1 16 = .ok (.iload_n 3, 1) := by decide +kernel
theorem dBag_countOf_17 : decode mBag_countOf.2.1 17 = .ok (.aload_n 1, 1) := by decide +kernel
theorem dBag_countOf_18 : decode mBag_countOf.2.1 18 = .ok (.iload_n 2, 1) := by decide +kernel
theorem dBag_countOf_19 : decode mBag_countOf.2.1 19 = .ok (.invokevirtual 29, 3) := by decide +kernel
theorem dBag_countOf_22 : decode mBag_countOf.2.1 22 = .ok (.ifCond .ne 12, 3) := by decide +kernel
theorem dBag_countOf_25 : decode mBag_countOf.2.1 25 = .ok (.aload_n 0, 1) := by decide +kernel
theorem dBag_countOf_26 : decode mBag_countOf.2.1 26 = .ok (.getfield 15, 3) := by decide +kernel
theorem dBag_countOf_29 : decode mBag_countOf.2.1 29 = .ok (.iload_n 3, 1) := by decide +kernel
theorem dBag_countOf_30 : decode mBag_countOf.2.1 30 = .ok (.iaload, 1) := by decide +kernel
theorem dBag_countOf_31 : decode mBag_countOf.2.1 31 = .ok (.goto 4, 3) := by decide +kernel
theorem dBag_countOf_34 : decode mBag_countOf.2.1 34 = .ok (.iconst 0, 1) := by decide +kernel
theorem dBag_countOf_35 : decode mBag_countOf.2.1 35 = .ok (.ireturn, 1) := by decide +kernel
def lBag_countOf_6 (a2 : Int32) (t : Nat) (r1 : Nat) : List Slot := [.val (.ref t), .val (.ref r1), .val (.int a2), .unset]
def lBag_countOf_22 (a2 : Int32) (a3 : Int32) (t : Nat) (r1 : Nat) : List Slot := [.val (.ref t), .val (.ref r1), .val (.int a2), .val (.int a3)]
theorem bBag_countOf_0 {t : Nat} {r1 n1 : Nat} {a2 : Int32} (hX : X.length = 13) (ht : kBag t) (hr1 : sh r1 = some (64, List.replicate n1 none)) (k1 : QW d mBag_firstNotBefore 0 (qen 7 [.ref t, .ref r1, .int a2]) [] (hpo X mem sw o e) (qcl d mBag_countOf 3 6 (lBag_countOf_6 a2 t r1) [] P)) : QW (d + 1) mBag_countOf 0 (qen 4 [.ref t, .ref r1, .int a2]) [] (hpo X mem sw o e) P := by
  show QW (d + 1) mBag_countOf 0 [.val (.ref t), .val (.ref r1), .val (.int a2), .unset] [] (hpo X mem sw o e) P
  refine QW.aload_n dBag_countOf_0 rfl rfl ?_
  refine QW.aload_n dBag_countOf_1 rfl rfl ?_
  refine QW.iload_n dBag_countOf_2 rfl rfl ?_
  exact MW.calV (as := [.ref r1, .int a2]) (rest := []) hX dBag_countOf_3 eBag_firstNotBefore lBag_25 iBag_firstNotBefore vBag_firstNotBefore rfl rfl (kBag_0 ht) rfl rfl rfl (Nat.le_of_ble_eq_true rfl) rfl k1
theorem bBag_countOf_6 {t : Nat} {r1 n1 : Nat} {a2 : Int32} {s0 : Int32} (hX : X.length = 13) (ht : kBag t) (hr1 : sh r1 = some (64, List.replicate n1 none)) (k1 : ((mem t 1) ≤ s0) → P (.inl (some (.int 0)), (hpo X mem sw o e))) (k2 : (¬ (mem t 1) ≤ s0) → QW d mBag_compare 0 (qen 6 [.ref t, .int s0, .ref r1, .int a2]) [] (hpo X mem sw o e) (qcl d mBag_countOf 19 22 (lBag_countOf_22 a2 s0 t r1) [] P)) : QW (d + 1) mBag_countOf 6 (lBag_countOf_6 a2 t r1) [.int s0] (hpo X mem sw o e) P := by
  show QW (d + 1) mBag_countOf 6 [.val (.ref t), .val (.ref r1), .val (.int a2), .unset] [.int s0] (hpo X mem sw o e) P
  refine QW.istore_n (ls' := [.val (.ref t), .val (.ref r1), .val (.int a2), .val (.int s0)]) dBag_countOf_6 rfl rfl ?_
  refine QW.iload_n dBag_countOf_7 rfl rfl ?_
  refine QW.aload_n dBag_countOf_8 rfl rfl ?_
  refine MW.geti hX dBag_countOf_9 fBag_22 (kBag_0 ht) rfl ?_
  refine QW.icmp_ge (tgt := 34) dBag_countOf_12 (by decide) (fun z0 => ?_) (fun z0 => ?_)
  · refine QW.iconst (v := 0) dBag_countOf_34 (by decide) ?_
    exact QW.iret dBag_countOf_35 rfl rfl (k1 z0)
  · refine QW.aload_n dBag_countOf_15 rfl rfl ?_
    refine QW.iload_n dBag_countOf_16 rfl rfl ?_
    refine QW.aload_n dBag_countOf_17 rfl rfl ?_
    refine QW.iload_n dBag_countOf_18 rfl rfl ?_
    exact MW.calV (as := [.int s0, .ref r1, .int a2]) (rest := []) hX dBag_countOf_19 eBag_compare lBag_29 iBag_compare vBag_compare rfl rfl (kBag_0 ht) rfl rfl rfl (Nat.le_of_ble_eq_true rfl) rfl (k2 z0)
theorem bBag_countOf_22 {t : Nat} {r1 n1 : Nat} {a2 : Int32} {a3 : Int32} {s0 : Int32} (hX : X.length = 13) (ht : kBag t) (hr1 : sh r1 = some (64, List.replicate n1 none)) (k1 : (¬ s0 = 0) → P (.inl (some (.int 0)), (hpo X mem sw o e))) (h2 : (s0 = 0) → inx a3 64) (k3 : (s0 = 0) → P (.inl (some (.int (mem (t + 2) (Int32.toNatClampNeg a3)))), (hpo X mem sw o e))) : QW d mBag_countOf 22 (lBag_countOf_22 a2 a3 t r1) [.int s0] (hpo X mem sw o e) P := by
  show QW d mBag_countOf 22 [.val (.ref t), .val (.ref r1), .val (.int a2), .val (.int a3)] [.int s0] (hpo X mem sw o e) P
  refine QW.if_ne (tgt := 34) dBag_countOf_22 (by decide) (fun z0 => ?_) (fun z0 => ?_)
  · refine QW.iconst (v := 0) dBag_countOf_34 (by decide) ?_
    exact QW.iret dBag_countOf_35 rfl rfl (k1 z0)
  · refine QW.aload_n dBag_countOf_25 rfl rfl ?_
    refine MW.getr (r' := (t + 2)) hX dBag_countOf_26 fBag_15 (kBag_0 ht) rfl (kBag_s2 ht _) ?_
    refine QW.iload_n dBag_countOf_29 rfl rfl ?_
    refine MW.iald hX dBag_countOf_30 (kBag_2 ht) (h2 z0).1 (rep_get (h2 z0).2) ?_
    refine QW.goto (tgt := 35) dBag_countOf_31 (by decide) ?_
    exact QW.iret dBag_countOf_35 rfl rfl (k3 z0)
theorem dBag_firstNotBefore_0 : decode mBag_firstNotBefore.2.1 0 = .ok (.iconst 0, 1) := by decide +kernel
theorem dBag_firstNotBefore_1 : decode mBag_firstNotBefore.2.1 1 = .ok (.istore_n 3, 1) := by decide +kernel
theorem dBag_firstNotBefore_2 : decode mBag_firstNotBefore.2.1 2 = .ok (.aload_n 0, 1) := by decide +kernel
theorem dBag_firstNotBefore_3 : decode mBag_firstNotBefore.2.1 3 = .ok (.getfield 22, 3) := by decide +kernel
theorem dBag_firstNotBefore_6 : decode mBag_firstNotBefore.2.1 6 = .ok (.istore 4, 2) := by decide +kernel
theorem dBag_firstNotBefore_8 : decode mBag_firstNotBefore.2.1 8 = .ok (.iconst 0, 1) := by decide +kernel
theorem dBag_firstNotBefore_9 : decode mBag_firstNotBefore.2.1 9 = .ok (.istore 5, 2) := by decide +kernel
theorem dBag_firstNotBefore_11 : decode mBag_firstNotBefore.2.1 11 = .ok (.iload 5, 2) := by decide +kernel
theorem dBag_firstNotBefore_13 : decode mBag_firstNotBefore.2.1 13 = .ok (.bipush 64, 2) := by decide +kernel
theorem dBag_firstNotBefore_15 : decode mBag_firstNotBefore.2.1 15 = .ok (.if_icmp .ge 46, 3) := by decide +kernel
theorem dBag_firstNotBefore_18 : decode mBag_firstNotBefore.2.1 18 = .ok (.iload_n 3, 1) := by decide +kernel
theorem dBag_firstNotBefore_19 : decode mBag_firstNotBefore.2.1 19 = .ok (.iload 4, 2) := by decide +kernel
theorem dBag_firstNotBefore_21 : decode mBag_firstNotBefore.2.1 21 = .ok (.if_icmp .ge 40, 3) := by decide +kernel
theorem dBag_firstNotBefore_24 : decode mBag_firstNotBefore.2.1 24 = .ok (.iload_n 3, 1) := by decide +kernel
theorem dBag_firstNotBefore_25 : decode mBag_firstNotBefore.2.1 25 = .ok (.iload 4, 2) := by decide +kernel
theorem dBag_firstNotBefore_27 : decode mBag_firstNotBefore.2.1 27 = .ok (.iadd, 1) := by decide +kernel
theorem dBag_firstNotBefore_28 : decode mBag_firstNotBefore.2.1 28 = .ok (.iconst 2, 1) := by decide +kernel
theorem dBag_firstNotBefore_29 : decode mBag_firstNotBefore.2.1 29 = .ok (.idiv, 1) := by decide +kernel
theorem dBag_firstNotBefore_30 : decode mBag_firstNotBefore.2.1 30 = .ok (.istore 6, 2) := by decide +kernel
theorem dBag_firstNotBefore_32 : decode mBag_firstNotBefore.2.1 32 = .ok (.aload_n 0, 1) := by decide +kernel
theorem dBag_firstNotBefore_33 : decode mBag_firstNotBefore.2.1 33 = .ok (.iload 6, 2) := by decide +kernel
theorem dBag_firstNotBefore_35 : decode mBag_firstNotBefore.2.1 35 = .ok (.aload_n 1, 1) := by decide +kernel
theorem dBag_firstNotBefore_36 : decode mBag_firstNotBefore.2.1 36 = .ok (.iload_n 2, 1) := by decide +kernel
theorem dBag_firstNotBefore_37 : decode mBag_firstNotBefore.2.1 37 = .ok (.invokevirtual 29, 3) := by decide +kernel
theorem dBag_firstNotBefore_40 : decode mBag_firstNotBefore.2.1 40 = .ok (.ifCond .ge 11, 3) := by decide +kernel
theorem dBag_firstNotBefore_43 : decode mBag_firstNotBefore.2.1 43 = .ok (.iload 6, 2) := by decide +kernel
theorem dBag_firstNotBefore_45 : decode mBag_firstNotBefore.2.1 45 = .ok (.iconst 1, 1) := by decide +kernel
theorem dBag_firstNotBefore_46 : decode mBag_firstNotBefore.2.1 46 = .ok (.iadd, 1) := by decide +kernel
theorem dBag_firstNotBefore_47 : decode mBag_firstNotBefore.2.1 47 = .ok (.istore_n 3, 1) := by decide +kernel
theorem dBag_firstNotBefore_48 : decode mBag_firstNotBefore.2.1 48 = .ok (.goto 7, 3) := by decide +kernel
theorem dBag_firstNotBefore_51 : decode mBag_firstNotBefore.2.1 51 = .ok (.iload 6, 2) := by decide +kernel
theorem dBag_firstNotBefore_53 : decode mBag_firstNotBefore.2.1 53 = .ok (.istore 4, 2) := by decide +kernel
theorem dBag_firstNotBefore_55 : decode mBag_firstNotBefore.2.1 55 = .ok (.iinc 5 1, 3) := by decide +kernel
theorem dBag_firstNotBefore_58 : decode mBag_firstNotBefore.2.1 58 = .ok (.goto (-47), 3) := by decide +kernel
theorem dBag_firstNotBefore_61 : decode mBag_firstNotBefore.2.1 61 = .ok (.iload_n 3, 1) := by decide +kernel
theorem dBag_firstNotBefore_62 : decode mBag_firstNotBefore.2.1 62 = .ok (.ireturn, 1) := by decide +kernel
def lBag_firstNotBefore_11 (a2 : Int32) (a3 : Int32) (a4 : Int32) (a5 : Int32) (w6 : Slot) (t : Nat) (r1 : Nat) : List Slot := [.val (.ref t), .val (.ref r1), .val (.int a2), .val (.int a3), .val (.int a4), .val (.int a5), w6]
def lBag_firstNotBefore_40 (a2 : Int32) (a3 : Int32) (a4 : Int32) (a5 : Int32) (a6 : Int32) (t : Nat) (r1 : Nat) : List Slot := [.val (.ref t), .val (.ref r1), .val (.int a2), .val (.int a3), .val (.int a4), .val (.int a5), .val (.int a6)]
def lBag_firstNotBefore_61 (a2 : Int32) (a3 : Int32) (a4 : Int32) (a5 : Int32) (w6 : Slot) (t : Nat) (r1 : Nat) : List Slot := [.val (.ref t), .val (.ref r1), .val (.int a2), .val (.int a3), .val (.int a4), .val (.int a5), w6]
theorem bBag_firstNotBefore_0 {t : Nat} {r1 n1 : Nat} {a2 : Int32} (hX : X.length = 13) (ht : kBag t) (hr1 : sh r1 = some (64, List.replicate n1 none)) (k1 : QW d mBag_firstNotBefore 11 (lBag_firstNotBefore_11 a2 0 (mem t 1) 0 .unset t r1) [] (hpo X mem sw o e) P) : QW d mBag_firstNotBefore 0 (qen 7 [.ref t, .ref r1, .int a2]) [] (hpo X mem sw o e) P := by
  show QW d mBag_firstNotBefore 0 [.val (.ref t), .val (.ref r1), .val (.int a2), .unset, .unset, .unset, .unset] [] (hpo X mem sw o e) P
  refine QW.iconst (v := 0) dBag_firstNotBefore_0 (by decide) ?_
  refine QW.istore_n (ls' := [.val (.ref t), .val (.ref r1), .val (.int a2), .val (.int 0), .unset, .unset, .unset]) dBag_firstNotBefore_1 rfl rfl ?_
  refine QW.aload_n dBag_firstNotBefore_2 rfl rfl ?_
  refine MW.geti hX dBag_firstNotBefore_3 fBag_22 (kBag_0 ht) rfl ?_
  refine QW.istore (ls' := [.val (.ref t), .val (.ref r1), .val (.int a2), .val (.int 0), .val (.int (mem t 1)), .unset, .unset]) dBag_firstNotBefore_6 rfl ?_
  refine QW.iconst (v := 0) dBag_firstNotBefore_8 (by decide) ?_
  refine QW.istore (ls' := [.val (.ref t), .val (.ref r1), .val (.int a2), .val (.int 0), .val (.int (mem t 1)), .val (.int 0), .unset]) dBag_firstNotBefore_9 rfl ?_
  exact k1
theorem bBag_firstNotBefore_11 {t : Nat} {r1 n1 : Nat} {a2 : Int32} {a3 : Int32} {a4 : Int32} {a5 : Int32} {w6 : Slot} (hX : X.length = 13) (ht : kBag t) (hr1 : sh r1 = some (64, List.replicate n1 none)) (hw6 : qfr w6) (k1 : (64 ≤ a5) → QW (d + 1) mBag_firstNotBefore 61 (lBag_firstNotBefore_61 a2 a3 a4 a5 w6 t r1) [] (hpo X mem sw o e) P) (k2 : (¬ 64 ≤ a5) → (a4 ≤ a3) → QW (d + 1) mBag_firstNotBefore 61 (lBag_firstNotBefore_61 a2 a3 a4 a5 w6 t r1) [] (hpo X mem sw o e) P) (k3 : (¬ 64 ≤ a5) → (¬ a4 ≤ a3) → QW d mBag_compare 0 (qen 6 [.ref t, .int ((a3 + a4) / 2), .ref r1, .int a2]) [] (hpo X mem sw o e) (qcl d mBag_firstNotBefore 37 40 (lBag_firstNotBefore_40 a2 a3 a4 a5 ((a3 + a4) / 2) t r1) [] P)) : QW (d + 1) mBag_firstNotBefore 11 (lBag_firstNotBefore_11 a2 a3 a4 a5 w6 t r1) [] (hpo X mem sw o e) P := by
  show QW (d + 1) mBag_firstNotBefore 11 [.val (.ref t), .val (.ref r1), .val (.int a2), .val (.int a3), .val (.int a4), .val (.int a5), w6] [] (hpo X mem sw o e) P
  refine QW.iload dBag_firstNotBefore_11 rfl ?_
  refine QW.bipush (v := 64) dBag_firstNotBefore_13 (by decide) ?_
  refine QW.icmp_ge (tgt := 61) dBag_firstNotBefore_15 (by decide) (fun z0 => ?_) (fun z0 => ?_)
  · exact (k1 z0)
  · refine QW.iload_n dBag_firstNotBefore_18 rfl rfl ?_
    refine QW.iload dBag_firstNotBefore_19 rfl ?_
    refine QW.icmp_ge (tgt := 61) dBag_firstNotBefore_21 (by decide) (fun z1 => ?_) (fun z1 => ?_)
    · exact (k2 z0 z1)
    · refine QW.iload_n dBag_firstNotBefore_24 rfl rfl ?_
      refine QW.iload dBag_firstNotBefore_25 rfl ?_
      refine QW.iadd dBag_firstNotBefore_27 ?_
      refine QW.iconst (v := 2) dBag_firstNotBefore_28 (by decide) ?_
      refine QW.idiv dBag_firstNotBefore_29 (by decide) ?_
      refine QW.istore (ls' := [.val (.ref t), .val (.ref r1), .val (.int a2), .val (.int a3), .val (.int a4), .val (.int a5), .val (.int ((a3 + a4) / 2))]) dBag_firstNotBefore_30 (by rcases hw6 with z | ⟨_, z⟩ | ⟨_, z⟩ <;> subst z <;> rfl) ?_
      refine QW.aload_n dBag_firstNotBefore_32 rfl rfl ?_
      refine QW.iload dBag_firstNotBefore_33 rfl ?_
      refine QW.aload_n dBag_firstNotBefore_35 rfl rfl ?_
      refine QW.iload_n dBag_firstNotBefore_36 rfl rfl ?_
      exact MW.calV (as := [.int ((a3 + a4) / 2), .ref r1, .int a2]) (rest := []) hX dBag_firstNotBefore_37 eBag_compare lBag_29 iBag_compare vBag_compare rfl rfl (kBag_0 ht) rfl rfl rfl (Nat.le_of_ble_eq_true rfl) rfl (k3 z0 z1)
theorem bBag_firstNotBefore_40 {t : Nat} {r1 n1 : Nat} {a2 : Int32} {a3 : Int32} {a4 : Int32} {a5 : Int32} {a6 : Int32} {s0 : Int32} (hX : X.length = 13) (ht : kBag t) (hr1 : sh r1 = some (64, List.replicate n1 none)) (k1 : (0 ≤ s0) → QW d mBag_firstNotBefore 11 (lBag_firstNotBefore_11 a2 a3 a6 (a5 + 1) (.val (.int a6)) t r1) [] (hpo X mem sw o e) P) (k2 : (¬ 0 ≤ s0) → QW d mBag_firstNotBefore 11 (lBag_firstNotBefore_11 a2 (a6 + 1) a4 (a5 + 1) (.val (.int a6)) t r1) [] (hpo X mem sw o e) P) : QW d mBag_firstNotBefore 40 (lBag_firstNotBefore_40 a2 a3 a4 a5 a6 t r1) [.int s0] (hpo X mem sw o e) P := by
  show QW d mBag_firstNotBefore 40 [.val (.ref t), .val (.ref r1), .val (.int a2), .val (.int a3), .val (.int a4), .val (.int a5), .val (.int a6)] [.int s0] (hpo X mem sw o e) P
  refine QW.if_ge (tgt := 51) dBag_firstNotBefore_40 (by decide) (fun z0 => ?_) (fun z0 => ?_)
  · refine QW.iload dBag_firstNotBefore_51 rfl ?_
    refine QW.istore (ls' := [.val (.ref t), .val (.ref r1), .val (.int a2), .val (.int a3), .val (.int a6), .val (.int a5), .val (.int a6)]) dBag_firstNotBefore_53 rfl ?_
    refine MW.iinc (c := 1) (ls' := [.val (.ref t), .val (.ref r1), .val (.int a2), .val (.int a3), .val (.int a6), .val (.int (a5 + 1)), .val (.int a6)]) dBag_firstNotBefore_55 (by decide) rfl rfl ?_
    refine QW.goto (tgt := 11) dBag_firstNotBefore_58 (by decide) ?_
    exact (k1 z0)
  · refine QW.iload dBag_firstNotBefore_43 rfl ?_
    refine QW.iconst (v := 1) dBag_firstNotBefore_45 (by decide) ?_
    refine QW.iadd dBag_firstNotBefore_46 ?_
    refine QW.istore_n (ls' := [.val (.ref t), .val (.ref r1), .val (.int a2), .val (.int (a6 + 1)), .val (.int a4), .val (.int a5), .val (.int a6)]) dBag_firstNotBefore_47 rfl rfl ?_
    refine QW.goto (tgt := 55) dBag_firstNotBefore_48 (by decide) ?_
    refine MW.iinc (c := 1) (ls' := [.val (.ref t), .val (.ref r1), .val (.int a2), .val (.int (a6 + 1)), .val (.int a4), .val (.int (a5 + 1)), .val (.int a6)]) dBag_firstNotBefore_55 (by decide) rfl rfl ?_
    refine QW.goto (tgt := 11) dBag_firstNotBefore_58 (by decide) ?_
    exact (k2 z0)
theorem bBag_firstNotBefore_61 {t : Nat} {r1 n1 : Nat} {a2 : Int32} {a3 : Int32} {a4 : Int32} {a5 : Int32} {w6 : Slot} (hX : X.length = 13) (ht : kBag t) (hr1 : sh r1 = some (64, List.replicate n1 none)) (hw6 : qfr w6) (k1 : P (.inl (some (.int a3)), (hpo X mem sw o e))) : QW d mBag_firstNotBefore 61 (lBag_firstNotBefore_61 a2 a3 a4 a5 w6 t r1) [] (hpo X mem sw o e) P := by
  show QW d mBag_firstNotBefore 61 [.val (.ref t), .val (.ref r1), .val (.int a2), .val (.int a3), .val (.int a4), .val (.int a5), w6] [] (hpo X mem sw o e) P
  refine QW.iload_n dBag_firstNotBefore_61 rfl rfl ?_
  exact QW.iret dBag_firstNotBefore_62 rfl rfl k1
theorem dBag_compare_0 : decode mBag_compare.2.1 0 = .ok (.iconst 0, 1) := by decide +kernel
theorem dBag_compare_1 : decode mBag_compare.2.1 1 = .ok (.istore 4, 2) := by decide +kernel
theorem dBag_compare_3 : decode mBag_compare.2.1 3 = .ok (.iload 4, 2) := by decide +kernel
theorem dBag_compare_5 : decode mBag_compare.2.1 5 = .ok (.aload_n 0, 1) := by decide +kernel
theorem dBag_compare_6 : decode mBag_compare.2.1 6 = .ok (.getfield 18, 3) := by decide +kernel
theorem dBag_compare_9 : decode mBag_compare.2.1 9 = .ok (.if_icmp .ge 50, 3) := by decide +kernel
theorem dBag_compare_12 : decode mBag_compare.2.1 12 = .ok (.aload_n 0, 1) := by decide +kernel
theorem dBag_compare_13 : decode mBag_compare.2.1 13 = .ok (.getfield 9, 3) := by decide +kernel
theorem dBag_compare_16 : decode mBag_compare.2.1 16 = .ok (.iload_n 1, 1) := by decide +kernel
theorem dBag_compare_17 : decode mBag_compare.2.1 17 = .ok (.iconst 3, 1) := by decide +kernel
theorem dBag_compare_18 : decode mBag_compare.2.1 18 = .ok (.imul, 1) := by decide +kernel
theorem dBag_compare_19 : decode mBag_compare.2.1 19 = .ok (.iload 4, 2) := by decide +kernel
theorem dBag_compare_21 : decode mBag_compare.2.1 21 = .ok (.iadd, 1) := by decide +kernel
theorem dBag_compare_22 : decode mBag_compare.2.1 22 = .ok (.iaload, 1) := by decide +kernel
theorem dBag_compare_23 : decode mBag_compare.2.1 23 = .ok (.istore 5, 2) := by decide +kernel
theorem dBag_compare_25 : decode mBag_compare.2.1 25 = .ok (.iload 5, 2) := by decide +kernel
theorem dBag_compare_27 : decode mBag_compare.2.1 27 = .ok (.aload_n 2, 1) := by decide +kernel
theorem dBag_compare_28 : decode mBag_compare.2.1 28 = .ok (.iload_n 3, 1) := by decide +kernel
theorem dBag_compare_29 : decode mBag_compare.2.1 29 = .ok (.iload 4, 2) := by decide +kernel
theorem dBag_compare_31 : decode mBag_compare.2.1 31 = .ok (.iadd, 1) := by decide +kernel
theorem dBag_compare_32 : decode mBag_compare.2.1 32 = .ok (.iaload, 1) := by decide +kernel
theorem dBag_compare_33 : decode mBag_compare.2.1 33 = .ok (.if_icmp .eq 20, 3) := by decide +kernel
theorem dBag_compare_36 : decode mBag_compare.2.1 36 = .ok (.iload 5, 2) := by decide +kernel
theorem dBag_compare_38 : decode mBag_compare.2.1 38 = .ok (.aload_n 2, 1) := by decide +kernel
theorem dBag_compare_39 : decode mBag_compare.2.1 39 = .ok (.iload_n 3, 1) := by decide +kernel
theorem dBag_compare_40 : decode mBag_compare.2.1 40 = .ok (.iload 4, 2) := by decide +kernel
theorem dBag_compare_42 : decode mBag_compare.2.1 42 = .ok (.iadd, 1) := by decide +kernel
theorem dBag_compare_43 : decode mBag_compare.2.1 43 = .ok (.iaload, 1) := by decide +kernel
theorem dBag_compare_44 : decode mBag_compare.2.1 44 = .ok (.if_icmp .ge 7, 3) := by decide +kernel
theorem dBag_compare_47 : decode mBag_compare.2.1 47 = .ok (.iconst (-1), 1) := by decide +kernel
theorem dBag_compare_48 : decode mBag_compare.2.1 48 = .ok (.goto 4, 3) := by decide +kernel
theorem dBag_compare_51 : decode mBag_compare.2.1 51 = .ok (.iconst 1, 1) := by decide +kernel
theorem dBag_compare_52 : decode mBag_compare.2.1 52 = .ok (.ireturn, 1) := by decide +kernel
theorem dBag_compare_53 : decode mBag_compare.2.1 53 = .ok (.iinc 4 1, 3) := by decide +kernel
theorem dBag_compare_56 : decode mBag_compare.2.1 56 = .ok (.goto (-53), 3) := by decide +kernel
theorem dBag_compare_59 : decode mBag_compare.2.1 59 = .ok (.iconst 0, 1) := by decide +kernel
theorem dBag_compare_60 : decode mBag_compare.2.1 60 = .ok (.ireturn, 1) := by decide +kernel
def lBag_compare_3 (a1 : Int32) (a3 : Int32) (a4 : Int32) (w5 : Slot) (t : Nat) (r2 : Nat) : List Slot := [.val (.ref t), .val (.int a1), .val (.ref r2), .val (.int a3), .val (.int a4), w5]
theorem bBag_compare_0 {t : Nat} {r2 n2 : Nat} {a1 : Int32} {a3 : Int32} (hX : X.length = 13) (ht : kBag t) (hr2 : sh r2 = some (64, List.replicate n2 none)) (k1 : QW d mBag_compare 3 (lBag_compare_3 a1 a3 0 .unset t r2) [] (hpo X mem sw o e) P) : QW d mBag_compare 0 (qen 6 [.ref t, .int a1, .ref r2, .int a3]) [] (hpo X mem sw o e) P := by
  show QW d mBag_compare 0 [.val (.ref t), .val (.int a1), .val (.ref r2), .val (.int a3), .unset, .unset] [] (hpo X mem sw o e) P
  refine QW.iconst (v := 0) dBag_compare_0 (by decide) ?_
  refine QW.istore (ls' := [.val (.ref t), .val (.int a1), .val (.ref r2), .val (.int a3), .val (.int 0), .unset]) dBag_compare_1 rfl ?_
  exact k1
theorem bBag_compare_3 {t : Nat} {r2 n2 : Nat} {a1 : Int32} {a3 : Int32} {a4 : Int32} {w5 : Slot} (hX : X.length = 13) (ht : kBag t) (hr2 : sh r2 = some (64, List.replicate n2 none)) (hw5 : qfr w5) (k1 : ((mem t 0) ≤ a4) → P (.inl (some (.int 0)), (hpo X mem sw o e))) (h2 : (¬ (mem t 0) ≤ a4) → inx ((a1 * 3) + a4) 192) (h3 : (¬ (mem t 0) ≤ a4) → inx (a3 + a4) n2) (k4 : (¬ (mem t 0) ≤ a4) → ((mem (t + 1) (Int32.toNatClampNeg ((a1 * 3) + a4))) = (mem r2 (Int32.toNatClampNeg (a3 + a4)))) → QW d mBag_compare 3 (lBag_compare_3 a1 a3 (a4 + 1) (.val (.int (mem (t + 1) (Int32.toNatClampNeg ((a1 * 3) + a4))))) t r2) [] (hpo X mem sw o e) P) (h5 : (¬ (mem t 0) ≤ a4) → (¬ (mem (t + 1) (Int32.toNatClampNeg ((a1 * 3) + a4))) = (mem r2 (Int32.toNatClampNeg (a3 + a4)))) → inx (a3 + a4) n2) (k6 : (¬ (mem t 0) ≤ a4) → (¬ (mem (t + 1) (Int32.toNatClampNeg ((a1 * 3) + a4))) = (mem r2 (Int32.toNatClampNeg (a3 + a4)))) → ((mem r2 (Int32.toNatClampNeg (a3 + a4))) ≤ (mem (t + 1) (Int32.toNatClampNeg ((a1 * 3) + a4)))) → P (.inl (some (.int 1)), (hpo X mem sw o e))) (k7 : (¬ (mem t 0) ≤ a4) → (¬ (mem (t + 1) (Int32.toNatClampNeg ((a1 * 3) + a4))) = (mem r2 (Int32.toNatClampNeg (a3 + a4)))) → (¬ (mem r2 (Int32.toNatClampNeg (a3 + a4))) ≤ (mem (t + 1) (Int32.toNatClampNeg ((a1 * 3) + a4)))) → P (.inl (some (.int (-1))), (hpo X mem sw o e))) : QW d mBag_compare 3 (lBag_compare_3 a1 a3 a4 w5 t r2) [] (hpo X mem sw o e) P := by
  show QW d mBag_compare 3 [.val (.ref t), .val (.int a1), .val (.ref r2), .val (.int a3), .val (.int a4), w5] [] (hpo X mem sw o e) P
  refine QW.iload dBag_compare_3 rfl ?_
  refine QW.aload_n dBag_compare_5 rfl rfl ?_
  refine MW.geti hX dBag_compare_6 fBag_18 (kBag_0 ht) rfl ?_
  refine QW.icmp_ge (tgt := 59) dBag_compare_9 (by decide) (fun z0 => ?_) (fun z0 => ?_)
  · refine QW.iconst (v := 0) dBag_compare_59 (by decide) ?_
    exact QW.iret dBag_compare_60 rfl rfl (k1 z0)
  · refine QW.aload_n dBag_compare_12 rfl rfl ?_
    refine MW.getr (r' := (t + 1)) hX dBag_compare_13 fBag_9 (kBag_0 ht) rfl (kBag_s1 ht _) ?_
    refine QW.iload_n dBag_compare_16 rfl rfl ?_
    refine QW.iconst (v := 3) dBag_compare_17 (by decide) ?_
    refine QW.imul dBag_compare_18 ?_
    refine QW.iload dBag_compare_19 rfl ?_
    refine QW.iadd dBag_compare_21 ?_
    refine MW.iald hX dBag_compare_22 (kBag_1 ht) (h2 z0).1 (rep_get (h2 z0).2) ?_
    refine QW.istore (ls' := [.val (.ref t), .val (.int a1), .val (.ref r2), .val (.int a3), .val (.int a4), .val (.int (mem (t + 1) (Int32.toNatClampNeg ((a1 * 3) + a4))))]) dBag_compare_23 (by rcases hw5 with z | ⟨_, z⟩ | ⟨_, z⟩ <;> subst z <;> rfl) ?_
    refine QW.iload dBag_compare_25 rfl ?_
    refine QW.aload_n dBag_compare_27 rfl rfl ?_
    refine QW.iload_n dBag_compare_28 rfl rfl ?_
    refine QW.iload dBag_compare_29 rfl ?_
    refine QW.iadd dBag_compare_31 ?_
    refine MW.iald hX dBag_compare_32 hr2 (h3 z0).1 (rep_get (h3 z0).2) ?_
    refine QW.icmp_eq (tgt := 53) dBag_compare_33 (by decide) (fun z1 => ?_) (fun z1 => ?_)
    · refine MW.iinc (c := 1) (ls' := [.val (.ref t), .val (.int a1), .val (.ref r2), .val (.int a3), .val (.int (a4 + 1)), .val (.int (mem (t + 1) (Int32.toNatClampNeg ((a1 * 3) + a4))))]) dBag_compare_53 (by decide) rfl rfl ?_
      refine QW.goto (tgt := 3) dBag_compare_56 (by decide) ?_
      exact (k4 z0 z1)
    · refine QW.iload dBag_compare_36 rfl ?_
      refine QW.aload_n dBag_compare_38 rfl rfl ?_
      refine QW.iload_n dBag_compare_39 rfl rfl ?_
      refine QW.iload dBag_compare_40 rfl ?_
      refine QW.iadd dBag_compare_42 ?_
      refine MW.iald hX dBag_compare_43 hr2 (h5 z0 z1).1 (rep_get (h5 z0 z1).2) ?_
      refine QW.icmp_ge (tgt := 51) dBag_compare_44 (by decide) (fun z2 => ?_) (fun z2 => ?_)
      · refine QW.iconst (v := 1) dBag_compare_51 (by decide) ?_
        exact QW.iret dBag_compare_52 rfl rfl (k6 z0 z1 z2)
      · refine QW.iconst (v := (-1)) dBag_compare_47 (by decide) ?_
        refine QW.goto (tgt := 52) dBag_compare_48 (by decide) ?_
        exact QW.iret dBag_compare_52 rfl rfl (k7 z0 z1 z2)
theorem dBl_lowSlot_0 : decode mBl_lowSlot.2.1 0 = .ok (.iconst 3, 1) := by decide +kernel
theorem dBl_lowSlot_1 : decode mBl_lowSlot.2.1 1 = .ok (.iconst 2, 1) := by decide +kernel
theorem dBl_lowSlot_2 : decode mBl_lowSlot.2.1 2 = .ok (.iload_n 0, 1) := by decide +kernel
theorem dBl_lowSlot_3 : decode mBl_lowSlot.2.1 3 = .ok (.imul, 1) := by decide +kernel
theorem dBl_lowSlot_4 : decode mBl_lowSlot.2.1 4 = .ok (.iadd, 1) := by decide +kernel
theorem dBl_lowSlot_5 : decode mBl_lowSlot.2.1 5 = .ok (.ireturn, 1) := by decide +kernel
theorem bBl_lowSlot_0 {a0 : Int32} (hX : X.length = 13) (k1 : P (.inl (some (.int (3 + (2 * a0)))), (hpo X mem sw o e))) : QW d mBl_lowSlot 0 (qen 1 [.int a0]) [] (hpo X mem sw o e) P := by
  show QW d mBl_lowSlot 0 [.val (.int a0)] [] (hpo X mem sw o e) P
  refine QW.iconst (v := 3) dBl_lowSlot_0 (by decide) ?_
  refine QW.iconst (v := 2) dBl_lowSlot_1 (by decide) ?_
  refine QW.iload_n dBl_lowSlot_2 rfl rfl ?_
  refine QW.imul dBl_lowSlot_3 ?_
  refine QW.iadd dBl_lowSlot_4 ?_
  exact QW.iret dBl_lowSlot_5 rfl rfl k1
theorem dBl_highSlot_0 : decode mBl_highSlot.2.1 0 = .ok (.iload_n 0, 1) := by decide +kernel
theorem dBl_highSlot_1 : decode mBl_highSlot.2.1 1 = .ok (.invokestatic 31, 3) := by decide +kernel
theorem dBl_highSlot_4 : decode mBl_highSlot.2.1 4 = .ok (.iconst 1, 1) := by decide +kernel
theorem dBl_highSlot_5 : decode mBl_highSlot.2.1 5 = .ok (.iadd, 1) := by decide +kernel
theorem dBl_highSlot_6 : decode mBl_highSlot.2.1 6 = .ok (.ireturn, 1) := by decide +kernel
def lBl_highSlot_4 (a0 : Int32) : List Slot := [.val (.int a0)]
theorem bBl_highSlot_0 {a0 : Int32} (hX : X.length = 13) (k1 : QW d mBl_lowSlot 0 (qen 1 [.int a0]) [] (hpo X mem sw o e) (qcl d mBl_highSlot 1 4 (lBl_highSlot_4 a0) [] P)) : QW (d + 1) mBl_highSlot 0 (qen 1 [.int a0]) [] (hpo X mem sw o e) P := by
  show QW (d + 1) mBl_highSlot 0 [.val (.int a0)] [] (hpo X mem sw o e) P
  refine QW.iload_n dBl_highSlot_0 rfl rfl ?_
  exact MW.calS (as := [.int a0]) (rest := []) dBl_highSlot_1 eBl_lowSlot lBl_31 sBl_lowSlot rfl rfl rfl (Nat.le_of_ble_eq_true rfl) rfl k1
theorem bBl_highSlot_4 {a0 : Int32} {s0 : Int32} (hX : X.length = 13) (k1 : P (.inl (some (.int (s0 + 1))), (hpo X mem sw o e))) : QW d mBl_highSlot 4 (lBl_highSlot_4 a0) [.int s0] (hpo X mem sw o e) P := by
  show QW d mBl_highSlot 4 [.val (.int a0)] [.int s0] (hpo X mem sw o e) P
  refine QW.iconst (v := 1) dBl_highSlot_4 (by decide) ?_
  refine QW.iadd dBl_highSlot_5 ?_
  exact QW.iret dBl_highSlot_6 rfl rfl k1
theorem dBl_clear_0 : decode mBl_clear.2.1 0 = .ok (.aload_n 0, 1) := by decide +kernel
theorem dBl_clear_1 : decode mBl_clear.2.1 1 = .ok (.iconst 0, 1) := by decide +kernel
theorem dBl_clear_2 : decode mBl_clear.2.1 2 = .ok (.putfield 35, 3) := by decide +kernel
theorem dBl_clear_5 : decode mBl_clear.2.1 5 = .ok (.aload_n 0, 1) := by decide +kernel
theorem dBl_clear_6 : decode mBl_clear.2.1 6 = .ok (.iconst 0, 1) := by decide +kernel
theorem dBl_clear_7 : decode mBl_clear.2.1 7 = .ok (.putfield 39, 3) := by decide +kernel
theorem dBl_clear_10 : decode mBl_clear.2.1 10 = .ok (.aload_n 0, 1) := by decide +kernel
theorem dBl_clear_11 : decode mBl_clear.2.1 11 = .ok (.iconst 0, 1) := by decide +kernel
theorem dBl_clear_12 : decode mBl_clear.2.1 12 = .ok (.putfield 43, 3) := by decide +kernel
theorem dBl_clear_15 : decode mBl_clear.2.1 15 = .ok (.aload_n 0, 1) := by decide +kernel
theorem dBl_clear_16 : decode mBl_clear.2.1 16 = .ok (.iconst 0, 1) := by decide +kernel
theorem dBl_clear_17 : decode mBl_clear.2.1 17 = .ok (.putfield 46, 3) := by decide +kernel
theorem dBl_clear_20 : decode mBl_clear.2.1 20 = .ok (.return_, 1) := by decide +kernel
theorem bBl_clear_0 {t : Nat} (hX : X.length = 13) (ht : kBl t) (k1 : P (.inl none, (hpo X (mup (mup (mup (mup mem t 0 0) t 1 0) t 2 0) t 3 0) sw o e))) : QW d mBl_clear 0 (qen 1 [.ref t]) [] (hpo X mem sw o e) P := by
  show QW d mBl_clear 0 [.val (.ref t)] [] (hpo X mem sw o e) P
  refine QW.aload_n dBl_clear_0 rfl rfl ?_
  refine QW.iconst (v := 0) dBl_clear_1 (by decide) ?_
  refine MW.putz hX dBl_clear_2 fBl_35 (kBl_0 ht) rfl rfl rfl rfl ?_
  refine QW.aload_n dBl_clear_5 rfl rfl ?_
  refine QW.iconst (v := 0) dBl_clear_6 (by decide) ?_
  refine MW.puti hX dBl_clear_7 fBl_39 (kBl_0 ht) rfl rfl ?_
  refine QW.aload_n dBl_clear_10 rfl rfl ?_
  refine QW.iconst (v := 0) dBl_clear_11 (by decide) ?_
  refine MW.puti hX dBl_clear_12 fBl_43 (kBl_0 ht) rfl rfl ?_
  refine QW.aload_n dBl_clear_15 rfl rfl ?_
  refine QW.iconst (v := 0) dBl_clear_16 (by decide) ?_
  refine MW.puti hX dBl_clear_17 fBl_46 (kBl_0 ht) rfl rfl ?_
  exact QW.vret dBl_clear_20 rfl k1
theorem dBl_isUsed_0 : decode mBl_isUsed.2.1 0 = .ok (.iload_n 1, 1) := by decide +kernel
theorem dBl_isUsed_1 : decode mBl_isUsed.2.1 1 = .ok (.iconst 3, 1) := by decide +kernel
theorem dBl_isUsed_2 : decode mBl_isUsed.2.1 2 = .ok (.if_icmp .ge 19, 3) := by decide +kernel
theorem dBl_isUsed_5 : decode mBl_isUsed.2.1 5 = .ok (.iload_n 1, 1) := by decide +kernel
theorem dBl_isUsed_6 : decode mBl_isUsed.2.1 6 = .ok (.aload_n 0, 1) := by decide +kernel
theorem dBl_isUsed_7 : decode mBl_isUsed.2.1 7 = .ok (.getfield 39, 3) := by decide +kernel
theorem dBl_isUsed_10 : decode mBl_isUsed.2.1 10 = .ok (.if_icmp .ge 7, 3) := by decide +kernel
theorem dBl_isUsed_13 : decode mBl_isUsed.2.1 13 = .ok (.iconst 1, 1) := by decide +kernel
theorem dBl_isUsed_14 : decode mBl_isUsed.2.1 14 = .ok (.goto 23, 3) := by decide +kernel
theorem dBl_isUsed_17 : decode mBl_isUsed.2.1 17 = .ok (.iconst 0, 1) := by decide +kernel
theorem dBl_isUsed_18 : decode mBl_isUsed.2.1 18 = .ok (.goto 19, 3) := by decide +kernel
theorem dBl_isUsed_21 : decode mBl_isUsed.2.1 21 = .ok (.iload_n 1, 1) := by decide +kernel
theorem dBl_isUsed_22 : decode mBl_isUsed.2.1 22 = .ok (.aload_n 0, 1) := by decide +kernel
theorem dBl_isUsed_23 : decode mBl_isUsed.2.1 23 = .ok (.getfield 46, 3) := by decide +kernel
theorem dBl_isUsed_26 : decode mBl_isUsed.2.1 26 = .ok (.invokestatic 31, 3) := by decide +kernel
theorem dBl_isUsed_29 : decode mBl_isUsed.2.1 29 = .ok (.if_icmp .ge 7, 3) := by decide +kernel
theorem dBl_isUsed_32 : decode mBl_isUsed.2.1 32 = .ok (.iconst 1, 1) := by decide +kernel
theorem dBl_isUsed_33 : decode mBl_isUsed.2.1 33 = .ok (.goto 4, 3) := by decide +kernel
theorem dBl_isUsed_36 : decode mBl_isUsed.2.1 36 = .ok (.iconst 0, 1) := by decide +kernel
theorem dBl_isUsed_37 : decode mBl_isUsed.2.1 37 = .ok (.ireturn, 1) := by decide +kernel
def lBl_isUsed_29 (a1 : Int32) (t : Nat) : List Slot := [.val (.ref t), .val (.int a1)]
theorem bBl_isUsed_0 {t : Nat} {a1 : Int32} (hX : X.length = 13) (ht : kBl t) (k1 : (3 ≤ a1) → QW d mBl_lowSlot 0 (qen 1 [.int (mem t 3)]) [] (hpo X mem sw o e) (qcl d mBl_isUsed 26 29 (lBl_isUsed_29 a1 t) [.int a1] P)) (k2 : (¬ 3 ≤ a1) → ((mem t 1) ≤ a1) → P (.inl (some (.int 0)), (hpo X mem sw o e))) (k3 : (¬ 3 ≤ a1) → (¬ (mem t 1) ≤ a1) → P (.inl (some (.int 1)), (hpo X mem sw o e))) : QW (d + 1) mBl_isUsed 0 (qen 2 [.ref t, .int a1]) [] (hpo X mem sw o e) P := by
  show QW (d + 1) mBl_isUsed 0 [.val (.ref t), .val (.int a1)] [] (hpo X mem sw o e) P
  refine QW.iload_n dBl_isUsed_0 rfl rfl ?_
  refine QW.iconst (v := 3) dBl_isUsed_1 (by decide) ?_
  refine QW.icmp_ge (tgt := 21) dBl_isUsed_2 (by decide) (fun z0 => ?_) (fun z0 => ?_)
  · refine QW.iload_n dBl_isUsed_21 rfl rfl ?_
    refine QW.aload_n dBl_isUsed_22 rfl rfl ?_
    refine MW.geti hX dBl_isUsed_23 fBl_46 (kBl_0 ht) rfl ?_
    exact MW.calS (as := [.int (mem t 3)]) (rest := [.int a1]) dBl_isUsed_26 eBl_lowSlot lBl_31 sBl_lowSlot rfl rfl rfl (Nat.le_of_ble_eq_true rfl) rfl (k1 z0)
  · refine QW.iload_n dBl_isUsed_5 rfl rfl ?_
    refine QW.aload_n dBl_isUsed_6 rfl rfl ?_
    refine MW.geti hX dBl_isUsed_7 fBl_39 (kBl_0 ht) rfl ?_
    refine QW.icmp_ge (tgt := 17) dBl_isUsed_10 (by decide) (fun z1 => ?_) (fun z1 => ?_)
    · refine QW.iconst (v := 0) dBl_isUsed_17 (by decide) ?_
      refine QW.goto (tgt := 37) dBl_isUsed_18 (by decide) ?_
      exact QW.iret dBl_isUsed_37 rfl rfl (k2 z0 z1)
    · refine QW.iconst (v := 1) dBl_isUsed_13 (by decide) ?_
      refine QW.goto (tgt := 37) dBl_isUsed_14 (by decide) ?_
      exact QW.iret dBl_isUsed_37 rfl rfl (k3 z0 z1)
theorem bBl_isUsed_29 {t : Nat} {a1 : Int32} {s1 : Int32} {s0 : Int32} (hX : X.length = 13) (ht : kBl t) (k1 : (s1 ≤ s0) → P (.inl (some (.int 0)), (hpo X mem sw o e))) (k2 : (¬ s1 ≤ s0) → P (.inl (some (.int 1)), (hpo X mem sw o e))) : QW d mBl_isUsed 29 (lBl_isUsed_29 a1 t) [.int s1, .int s0] (hpo X mem sw o e) P := by
  show QW d mBl_isUsed 29 [.val (.ref t), .val (.int a1)] [.int s1, .int s0] (hpo X mem sw o e) P
  refine QW.icmp_ge (tgt := 36) dBl_isUsed_29 (by decide) (fun z0 => ?_) (fun z0 => ?_)
  · refine QW.iconst (v := 0) dBl_isUsed_36 (by decide) ?_
    exact QW.iret dBl_isUsed_37 rfl rfl (k1 z0)
  · refine QW.iconst (v := 1) dBl_isUsed_32 (by decide) ?_
    refine QW.goto (tgt := 37) dBl_isUsed_33 (by decide) ?_
    exact QW.iret dBl_isUsed_37 rfl rfl (k2 z0)
theorem dBl_sourceNamed_0 : decode mBl_sourceNamed.2.1 0 = .ok (.iconst 0, 1) := by decide +kernel
theorem dBl_sourceNamed_1 : decode mBl_sourceNamed.2.1 1 = .ok (.istore_n 2, 1) := by decide +kernel
theorem dBl_sourceNamed_2 : decode mBl_sourceNamed.2.1 2 = .ok (.iload_n 2, 1) := by decide +kernel
theorem dBl_sourceNamed_3 : decode mBl_sourceNamed.2.1 3 = .ok (.aload_n 0, 1) := by decide +kernel
theorem dBl_sourceNamed_4 : decode mBl_sourceNamed.2.1 4 = .ok (.getfield 43, 3) := by decide +kernel
theorem dBl_sourceNamed_7 : decode mBl_sourceNamed.2.1 7 = .ok (.if_icmp .ge 21, 3) := by decide +kernel
theorem dBl_sourceNamed_10 : decode mBl_sourceNamed.2.1 10 = .ok (.aload_n 0, 1) := by decide +kernel
theorem dBl_sourceNamed_11 : decode mBl_sourceNamed.2.1 11 = .ok (.getfield 15, 3) := by decide +kernel
theorem dBl_sourceNamed_14 : decode mBl_sourceNamed.2.1 14 = .ok (.iload_n 2, 1) := by decide +kernel
theorem dBl_sourceNamed_15 : decode mBl_sourceNamed.2.1 15 = .ok (.iaload, 1) := by decide +kernel
theorem dBl_sourceNamed_16 : decode mBl_sourceNamed.2.1 16 = .ok (.iload_n 1, 1) := by decide +kernel
theorem dBl_sourceNamed_17 : decode mBl_sourceNamed.2.1 17 = .ok (.if_icmp .ne 5, 3) := by decide +kernel
theorem dBl_sourceNamed_20 : decode mBl_sourceNamed.2.1 20 = .ok (.iload_n 2, 1) := by decide +kernel
theorem dBl_sourceNamed_21 : decode mBl_sourceNamed.2.1 21 = .ok (.ireturn, 1) := by decide +kernel
theorem dBl_sourceNamed_22 : decode mBl_sourceNamed.2.1 22 = .ok (.iinc 2 1, 3) := by decide +kernel
theorem dBl_sourceNamed_25 : decode mBl_sourceNamed.2.1 25 = .ok (.goto (-23), 3) := by decide +kernel
theorem dBl_sourceNamed_28 : decode mBl_sourceNamed.2.1 28 = .ok (.iconst (-1), 1) := by decide +kernel
theorem dBl_sourceNamed_29 : decode mBl_sourceNamed.2.1 29 = .ok (.ireturn, 1) := by decide +kernel
def lBl_sourceNamed_2 (a1 : Int32) (a2 : Int32) (t : Nat) : List Slot := [.val (.ref t), .val (.int a1), .val (.int a2)]
theorem bBl_sourceNamed_0 {t : Nat} {a1 : Int32} (hX : X.length = 13) (ht : kBl t) (k1 : QW d mBl_sourceNamed 2 (lBl_sourceNamed_2 a1 0 t) [] (hpo X mem sw o e) P) : QW d mBl_sourceNamed 0 (qen 3 [.ref t, .int a1]) [] (hpo X mem sw o e) P := by
  show QW d mBl_sourceNamed 0 [.val (.ref t), .val (.int a1), .unset] [] (hpo X mem sw o e) P
  refine QW.iconst (v := 0) dBl_sourceNamed_0 (by decide) ?_
  refine QW.istore_n (ls' := [.val (.ref t), .val (.int a1), .val (.int 0)]) dBl_sourceNamed_1 rfl rfl ?_
  exact k1
theorem bBl_sourceNamed_2 {t : Nat} {a1 : Int32} {a2 : Int32} (hX : X.length = 13) (ht : kBl t) (k1 : ((mem t 2) ≤ a2) → P (.inl (some (.int (-1))), (hpo X mem sw o e))) (h2 : (¬ (mem t 2) ≤ a2) → inx a2 4) (k3 : (¬ (mem t 2) ≤ a2) → (¬ (mem (t + 2) (Int32.toNatClampNeg a2)) = a1) → QW d mBl_sourceNamed 2 (lBl_sourceNamed_2 a1 (a2 + 1) t) [] (hpo X mem sw o e) P) (k4 : (¬ (mem t 2) ≤ a2) → ((mem (t + 2) (Int32.toNatClampNeg a2)) = a1) → P (.inl (some (.int a2)), (hpo X mem sw o e))) : QW d mBl_sourceNamed 2 (lBl_sourceNamed_2 a1 a2 t) [] (hpo X mem sw o e) P := by
  show QW d mBl_sourceNamed 2 [.val (.ref t), .val (.int a1), .val (.int a2)] [] (hpo X mem sw o e) P
  refine QW.iload_n dBl_sourceNamed_2 rfl rfl ?_
  refine QW.aload_n dBl_sourceNamed_3 rfl rfl ?_
  refine MW.geti hX dBl_sourceNamed_4 fBl_43 (kBl_0 ht) rfl ?_
  refine QW.icmp_ge (tgt := 28) dBl_sourceNamed_7 (by decide) (fun z0 => ?_) (fun z0 => ?_)
  · refine QW.iconst (v := (-1)) dBl_sourceNamed_28 (by decide) ?_
    exact QW.iret dBl_sourceNamed_29 rfl rfl (k1 z0)
  · refine QW.aload_n dBl_sourceNamed_10 rfl rfl ?_
    refine MW.getr (r' := (t + 2)) hX dBl_sourceNamed_11 fBl_15 (kBl_0 ht) rfl (kBl_s2 ht _) ?_
    refine QW.iload_n dBl_sourceNamed_14 rfl rfl ?_
    refine MW.iald hX dBl_sourceNamed_15 (kBl_2 ht) (h2 z0).1 (rep_get (h2 z0).2) ?_
    refine QW.iload_n dBl_sourceNamed_16 rfl rfl ?_
    refine QW.icmp_ne (tgt := 22) dBl_sourceNamed_17 (by decide) (fun z1 => ?_) (fun z1 => ?_)
    · refine MW.iinc (c := 1) (ls' := [.val (.ref t), .val (.int a1), .val (.int (a2 + 1))]) dBl_sourceNamed_22 (by decide) rfl rfl ?_
      refine QW.goto (tgt := 2) dBl_sourceNamed_25 (by decide) ?_
      exact (k3 z0 z1)
    · refine QW.iload_n dBl_sourceNamed_20 rfl rfl ?_
      exact QW.iret dBl_sourceNamed_21 rfl rfl (k4 z0 z1)
theorem dBl_addSource_0 : decode mBl_addSource.2.1 0 = .ok (.aload_n 0, 1) := by decide +kernel
theorem dBl_addSource_1 : decode mBl_addSource.2.1 1 = .ok (.getfield 9, 3) := by decide +kernel
theorem dBl_addSource_4 : decode mBl_addSource.2.1 4 = .ok (.aload_n 0, 1) := by decide +kernel
theorem dBl_addSource_5 : decode mBl_addSource.2.1 5 = .ok (.getfield 43, 3) := by decide +kernel
theorem dBl_addSource_8 : decode mBl_addSource.2.1 8 = .ok (.iload_n 1, 1) := by decide +kernel
theorem dBl_addSource_9 : decode mBl_addSource.2.1 9 = .ok (.iastore, 1) := by decide +kernel
theorem dBl_addSource_10 : decode mBl_addSource.2.1 10 = .ok (.aload_n 0, 1) := by decide +kernel
theorem dBl_addSource_11 : decode mBl_addSource.2.1 11 = .ok (.getfield 15, 3) := by decide +kernel
theorem dBl_addSource_14 : decode mBl_addSource.2.1 14 = .ok (.aload_n 0, 1) := by decide +kernel
theorem dBl_addSource_15 : decode mBl_addSource.2.1 15 = .ok (.getfield 43, 3) := by decide +kernel
theorem dBl_addSource_18 : decode mBl_addSource.2.1 18 = .ok (.iload_n 2, 1) := by decide +kernel
theorem dBl_addSource_19 : decode mBl_addSource.2.1 19 = .ok (.iastore, 1) := by decide +kernel
theorem dBl_addSource_20 : decode mBl_addSource.2.1 20 = .ok (.aload_n 0, 1) := by decide +kernel
theorem dBl_addSource_21 : decode mBl_addSource.2.1 21 = .ok (.dup, 1) := by decide +kernel
theorem dBl_addSource_22 : decode mBl_addSource.2.1 22 = .ok (.getfield 43, 3) := by decide +kernel
theorem dBl_addSource_25 : decode mBl_addSource.2.1 25 = .ok (.iconst 1, 1) := by decide +kernel
theorem dBl_addSource_26 : decode mBl_addSource.2.1 26 = .ok (.iadd, 1) := by decide +kernel
theorem dBl_addSource_27 : decode mBl_addSource.2.1 27 = .ok (.putfield 43, 3) := by decide +kernel
theorem dBl_addSource_30 : decode mBl_addSource.2.1 30 = .ok (.return_, 1) := by decide +kernel
theorem bBl_addSource_0 {t : Nat} {a1 : Int32} {a2 : Int32} (hX : X.length = 13) (ht : kBl t) (h1 : inx (mem t 2) 4) (h2 : inx ((mup mem (t + 1) (Int32.toNatClampNeg (mem t 2)) a1) t 2) 4) (k3 : P (.inl none, (hpo X (mup (mup (mup mem (t + 1) (Int32.toNatClampNeg (mem t 2)) a1) (t + 2) (Int32.toNatClampNeg ((mup mem (t + 1) (Int32.toNatClampNeg (mem t 2)) a1) t 2)) a2) t 2 (((mup (mup mem (t + 1) (Int32.toNatClampNeg (mem t 2)) a1) (t + 2) (Int32.toNatClampNeg ((mup mem (t + 1) (Int32.toNatClampNeg (mem t 2)) a1) t 2)) a2) t 2) + 1)) sw o e))) : QW d mBl_addSource 0 (qen 3 [.ref t, .int a1, .int a2]) [] (hpo X mem sw o e) P := by
  show QW d mBl_addSource 0 [.val (.ref t), .val (.int a1), .val (.int a2)] [] (hpo X mem sw o e) P
  refine QW.aload_n dBl_addSource_0 rfl rfl ?_
  refine MW.getr (r' := (t + 1)) hX dBl_addSource_1 fBl_9 (kBl_0 ht) rfl (kBl_s1 ht _) ?_
  refine QW.aload_n dBl_addSource_4 rfl rfl ?_
  refine MW.geti hX dBl_addSource_5 fBl_43 (kBl_0 ht) rfl ?_
  refine QW.iload_n dBl_addSource_8 rfl rfl ?_
  refine MW.iast hX dBl_addSource_9 (kBl_1 ht) h1.1 (rep_get h1.2) ?_
  refine QW.aload_n dBl_addSource_10 rfl rfl ?_
  refine MW.getr (r' := (t + 2)) hX dBl_addSource_11 fBl_15 (kBl_0 ht) rfl (kBl_s2 ht _) ?_
  refine QW.aload_n dBl_addSource_14 rfl rfl ?_
  refine MW.geti hX dBl_addSource_15 fBl_43 (kBl_0 ht) rfl ?_
  refine QW.iload_n dBl_addSource_18 rfl rfl ?_
  refine MW.iast hX dBl_addSource_19 (kBl_2 ht) h2.1 (rep_get h2.2) ?_
  refine QW.aload_n dBl_addSource_20 rfl rfl ?_
  refine QW.dup dBl_addSource_21 rfl ?_
  refine MW.geti hX dBl_addSource_22 fBl_43 (kBl_0 ht) rfl ?_
  refine QW.iconst (v := 1) dBl_addSource_25 (by decide) ?_
  refine QW.iadd dBl_addSource_26 ?_
  refine MW.puti hX dBl_addSource_27 fBl_43 (kBl_0 ht) rfl rfl ?_
  exact QW.vret dBl_addSource_30 rfl k3
theorem dBl_putNumber_0 : decode mBl_putNumber.2.1 0 = .ok (.aload_n 0, 1) := by decide +kernel
theorem dBl_putNumber_1 : decode mBl_putNumber.2.1 1 = .ok (.getfield 22, 3) := by decide +kernel
theorem dBl_putNumber_4 : decode mBl_putNumber.2.1 4 = .ok (.iload_n 1, 1) := by decide +kernel
theorem dBl_putNumber_5 : decode mBl_putNumber.2.1 5 = .ok (.iconst 0, 1) := by decide +kernel
theorem dBl_putNumber_6 : decode mBl_putNumber.2.1 6 = .ok (.iastore, 1) := by decide +kernel
theorem dBl_putNumber_7 : decode mBl_putNumber.2.1 7 = .ok (.aload_n 0, 1) := by decide +kernel
theorem dBl_putNumber_8 : decode mBl_putNumber.2.1 8 = .ok (.getfield 25, 3) := by decide +kernel
theorem dBl_putNumber_11 : decode mBl_putNumber.2.1 11 = .ok (.iload_n 1, 1) := by decide +kernel
theorem dBl_putNumber_12 : decode mBl_putNumber.2.1 12 = .ok (.iconst (-1), 1) := by decide +kernel
theorem dBl_putNumber_13 : decode mBl_putNumber.2.1 13 = .ok (.iastore, 1) := by decide +kernel
theorem dBl_putNumber_14 : decode mBl_putNumber.2.1 14 = .ok (.aload_n 0, 1) := by decide +kernel
theorem dBl_putNumber_15 : decode mBl_putNumber.2.1 15 = .ok (.getfield 28, 3) := by decide +kernel
theorem dBl_putNumber_18 : decode mBl_putNumber.2.1 18 = .ok (.iload_n 1, 1) := by decide +kernel
theorem dBl_putNumber_19 : decode mBl_putNumber.2.1 19 = .ok (.iload_n 2, 1) := by decide +kernel
theorem dBl_putNumber_20 : decode mBl_putNumber.2.1 20 = .ok (.iastore, 1) := by decide +kernel
theorem dBl_putNumber_21 : decode mBl_putNumber.2.1 21 = .ok (.return_, 1) := by decide +kernel
theorem bBl_putNumber_0 {t : Nat} {a1 : Int32} {a2 : Int32} (hX : X.length = 13) (ht : kBl t) (h1 : inx a1 15) (h2 : inx a1 15) (h3 : inx a1 15) (k4 : P (.inl none, (hpo X (mup (mup (mup mem (t + 4) (Int32.toNatClampNeg a1) 0) (t + 5) (Int32.toNatClampNeg a1) (-1)) (t + 6) (Int32.toNatClampNeg a1) a2) sw o e))) : QW d mBl_putNumber 0 (qen 3 [.ref t, .int a1, .int a2]) [] (hpo X mem sw o e) P := by
  show QW d mBl_putNumber 0 [.val (.ref t), .val (.int a1), .val (.int a2)] [] (hpo X mem sw o e) P
  refine QW.aload_n dBl_putNumber_0 rfl rfl ?_
  refine MW.getr (r' := (t + 4)) hX dBl_putNumber_1 fBl_22 (kBl_0 ht) rfl (kBl_s4 ht _) ?_
  refine QW.iload_n dBl_putNumber_4 rfl rfl ?_
  refine QW.iconst (v := 0) dBl_putNumber_5 (by decide) ?_
  refine MW.iast hX dBl_putNumber_6 (kBl_4 ht) h1.1 (rep_get h1.2) ?_
  refine QW.aload_n dBl_putNumber_7 rfl rfl ?_
  refine MW.getr (r' := (t + 5)) hX dBl_putNumber_8 fBl_25 (kBl_0 ht) rfl (kBl_s5 ht _) ?_
  refine QW.iload_n dBl_putNumber_11 rfl rfl ?_
  refine QW.iconst (v := (-1)) dBl_putNumber_12 (by decide) ?_
  refine MW.iast hX dBl_putNumber_13 (kBl_5 ht) h2.1 (rep_get h2.2) ?_
  refine QW.aload_n dBl_putNumber_14 rfl rfl ?_
  refine MW.getr (r' := (t + 6)) hX dBl_putNumber_15 fBl_28 (kBl_0 ht) rfl (kBl_s6 ht _) ?_
  refine QW.iload_n dBl_putNumber_18 rfl rfl ?_
  refine QW.iload_n dBl_putNumber_19 rfl rfl ?_
  refine MW.iast hX dBl_putNumber_20 (kBl_6 ht) h3.1 (rep_get h3.2) ?_
  exact QW.vret dBl_putNumber_21 rfl k4
theorem dBl_putColumn_0 : decode mBl_putColumn.2.1 0 = .ok (.aload_n 0, 1) := by decide +kernel
theorem dBl_putColumn_1 : decode mBl_putColumn.2.1 1 = .ok (.getfield 22, 3) := by decide +kernel
theorem dBl_putColumn_4 : decode mBl_putColumn.2.1 4 = .ok (.iload_n 1, 1) := by decide +kernel
theorem dBl_putColumn_5 : decode mBl_putColumn.2.1 5 = .ok (.iload_n 2, 1) := by decide +kernel
theorem dBl_putColumn_6 : decode mBl_putColumn.2.1 6 = .ok (.iastore, 1) := by decide +kernel
theorem dBl_putColumn_7 : decode mBl_putColumn.2.1 7 = .ok (.aload_n 0, 1) := by decide +kernel
theorem dBl_putColumn_8 : decode mBl_putColumn.2.1 8 = .ok (.getfield 25, 3) := by decide +kernel
theorem dBl_putColumn_11 : decode mBl_putColumn.2.1 11 = .ok (.iload_n 1, 1) := by decide +kernel
theorem dBl_putColumn_12 : decode mBl_putColumn.2.1 12 = .ok (.iconst (-1), 1) := by decide +kernel
theorem dBl_putColumn_13 : decode mBl_putColumn.2.1 13 = .ok (.iastore, 1) := by decide +kernel
theorem dBl_putColumn_14 : decode mBl_putColumn.2.1 14 = .ok (.aload_n 0, 1) := by decide +kernel
theorem dBl_putColumn_15 : decode mBl_putColumn.2.1 15 = .ok (.getfield 28, 3) := by decide +kernel
theorem dBl_putColumn_18 : decode mBl_putColumn.2.1 18 = .ok (.iload_n 1, 1) := by decide +kernel
theorem dBl_putColumn_19 : decode mBl_putColumn.2.1 19 = .ok (.iload_n 3, 1) := by decide +kernel
theorem dBl_putColumn_20 : decode mBl_putColumn.2.1 20 = .ok (.iastore, 1) := by decide +kernel
theorem dBl_putColumn_21 : decode mBl_putColumn.2.1 21 = .ok (.return_, 1) := by decide +kernel
theorem bBl_putColumn_0 {t : Nat} {a1 : Int32} {a2 : Int32} {a3 : Int32} (hX : X.length = 13) (ht : kBl t) (h1 : inx a1 15) (h2 : inx a1 15) (h3 : inx a1 15) (k4 : P (.inl none, (hpo X (mup (mup (mup mem (t + 4) (Int32.toNatClampNeg a1) a2) (t + 5) (Int32.toNatClampNeg a1) (-1)) (t + 6) (Int32.toNatClampNeg a1) a3) sw o e))) : QW d mBl_putColumn 0 (qen 4 [.ref t, .int a1, .int a2, .int a3]) [] (hpo X mem sw o e) P := by
  show QW d mBl_putColumn 0 [.val (.ref t), .val (.int a1), .val (.int a2), .val (.int a3)] [] (hpo X mem sw o e) P
  refine QW.aload_n dBl_putColumn_0 rfl rfl ?_
  refine MW.getr (r' := (t + 4)) hX dBl_putColumn_1 fBl_22 (kBl_0 ht) rfl (kBl_s4 ht _) ?_
  refine QW.iload_n dBl_putColumn_4 rfl rfl ?_
  refine QW.iload_n dBl_putColumn_5 rfl rfl ?_
  refine MW.iast hX dBl_putColumn_6 (kBl_4 ht) h1.1 (rep_get h1.2) ?_
  refine QW.aload_n dBl_putColumn_7 rfl rfl ?_
  refine MW.getr (r' := (t + 5)) hX dBl_putColumn_8 fBl_25 (kBl_0 ht) rfl (kBl_s5 ht _) ?_
  refine QW.iload_n dBl_putColumn_11 rfl rfl ?_
  refine QW.iconst (v := (-1)) dBl_putColumn_12 (by decide) ?_
  refine MW.iast hX dBl_putColumn_13 (kBl_5 ht) h2.1 (rep_get h2.2) ?_
  refine QW.aload_n dBl_putColumn_14 rfl rfl ?_
  refine MW.getr (r' := (t + 6)) hX dBl_putColumn_15 fBl_28 (kBl_0 ht) rfl (kBl_s6 ht _) ?_
  refine QW.iload_n dBl_putColumn_18 rfl rfl ?_
  refine QW.iload_n dBl_putColumn_19 rfl rfl ?_
  refine MW.iast hX dBl_putColumn_20 (kBl_6 ht) h3.1 (rep_get h3.2) ?_
  exact QW.vret dBl_putColumn_21 rfl k4
theorem dBl_bind_0 : decode mBl_bind.2.1 0 = .ok (.iconst 0, 1) := by decide +kernel
theorem dBl_bind_1 : decode mBl_bind.2.1 1 = .ok (.istore_n 2, 1) := by decide +kernel
theorem dBl_bind_2 : decode mBl_bind.2.1 2 = .ok (.iload_n 2, 1) := by decide +kernel
theorem dBl_bind_3 : decode mBl_bind.2.1 3 = .ok (.bipush 15, 2) := by decide +kernel
theorem dBl_bind_5 : decode mBl_bind.2.1 5 = .ok (.if_icmp .ge 73, 3) := by decide +kernel
theorem dBl_bind_8 : decode mBl_bind.2.1 8 = .ok (.aload_n 0, 1) := by decide +kernel
theorem dBl_bind_9 : decode mBl_bind.2.1 9 = .ok (.iload_n 2, 1) := by decide +kernel
theorem dBl_bind_10 : decode mBl_bind.2.1 10 = .ok (.invokevirtual 49, 3) := by decide +kernel
theorem dBl_bind_13 : decode mBl_bind.2.1 13 = .ok (.ifCond .eq 59, 3) := by decide +kernel
theorem dBl_bind_16 : decode mBl_bind.2.1 16 = .ok (.aload_n 0, 1) := by decide +kernel
theorem dBl_bind_17 : decode mBl_bind.2.1 17 = .ok (.getfield 22, 3) := by decide +kernel
theorem dBl_bind_20 : decode mBl_bind.2.1 20 = .ok (.iload_n 2, 1) := by decide +kernel
theorem dBl_bind_21 : decode mBl_bind.2.1 21 = .ok (.iaload, 1) := by decide +kernel
theorem dBl_bind_22 : decode mBl_bind.2.1 22 = .ok (.ifCond .eq 50, 3) := by decide +kernel
theorem dBl_bind_25 : decode mBl_bind.2.1 25 = .ok (.aload_n 0, 1) := by decide +kernel
theorem dBl_bind_26 : decode mBl_bind.2.1 26 = .ok (.aload_n 0, 1) := by decide +kernel
theorem dBl_bind_27 : decode mBl_bind.2.1 27 = .ok (.getfield 22, 3) := by decide +kernel
theorem dBl_bind_30 : decode mBl_bind.2.1 30 = .ok (.iload_n 2, 1) := by decide +kernel
theorem dBl_bind_31 : decode mBl_bind.2.1 31 = .ok (.iaload, 1) := by decide +kernel
theorem dBl_bind_32 : decode mBl_bind.2.1 32 = .ok (.invokevirtual 53, 3) := by decide +kernel
theorem dBl_bind_35 : decode mBl_bind.2.1 35 = .ok (.istore_n 3, 1) := by decide +kernel
theorem dBl_bind_36 : decode mBl_bind.2.1 36 = .ok (.iload_n 3, 1) := by decide +kernel
theorem dBl_bind_37 : decode mBl_bind.2.1 37 = .ok (.ifCond .lt 26, 3) := by decide +kernel
theorem dBl_bind_40 : decode mBl_bind.2.1 40 = .ok (.aload_n 1, 1) := by decide +kernel
theorem dBl_bind_41 : decode mBl_bind.2.1 41 = .ok (.getfield 56, 3) := by decide +kernel
theorem dBl_bind_44 : decode mBl_bind.2.1 44 = .ok (.aload_n 0, 1) := by decide +kernel
theorem dBl_bind_45 : decode mBl_bind.2.1 45 = .ok (.getfield 9, 3) := by decide +kernel
theorem dBl_bind_48 : decode mBl_bind.2.1 48 = .ok (.iload_n 3, 1) := by decide +kernel
theorem dBl_bind_49 : decode mBl_bind.2.1 49 = .ok (.iaload, 1) := by decide +kernel
theorem dBl_bind_50 : decode mBl_bind.2.1 50 = .ok (.aaload, 1) := by decide +kernel
theorem dBl_bind_51 : decode mBl_bind.2.1 51 = .ok (.aload_n 0, 1) := by decide +kernel
theorem dBl_bind_52 : decode mBl_bind.2.1 52 = .ok (.getfield 28, 3) := by decide +kernel
theorem dBl_bind_55 : decode mBl_bind.2.1 55 = .ok (.iload_n 2, 1) := by decide +kernel
theorem dBl_bind_56 : decode mBl_bind.2.1 56 = .ok (.iaload, 1) := by decide +kernel
theorem dBl_bind_57 : decode mBl_bind.2.1 57 = .ok (.invokevirtual 62, 3) := by decide +kernel
theorem dBl_bind_60 : decode mBl_bind.2.1 60 = .ok (.ifCond .ne 5, 3) := by decide +kernel
theorem dBl_bind_63 : decode mBl_bind.2.1 63 = .ok (.iconst 0, 1) := by decide +kernel
theorem dBl_bind_64 : decode mBl_bind.2.1 64 = .ok (.ireturn, 1) := by decide +kernel
theorem dBl_bind_65 : decode mBl_bind.2.1 65 = .ok (.aload_n 0, 1) := by decide +kernel
theorem dBl_bind_66 : decode mBl_bind.2.1 66 = .ok (.getfield 25, 3) := by decide +kernel
theorem dBl_bind_69 : decode mBl_bind.2.1 69 = .ok (.iload_n 2, 1) := by decide +kernel
theorem dBl_bind_70 : decode mBl_bind.2.1 70 = .ok (.iload_n 3, 1) := by decide +kernel
theorem dBl_bind_71 : decode mBl_bind.2.1 71 = .ok (.iastore, 1) := by decide +kernel
theorem dBl_bind_72 : decode mBl_bind.2.1 72 = .ok (.iinc 2 1, 3) := by decide +kernel
theorem dBl_bind_75 : decode mBl_bind.2.1 75 = .ok (.goto (-73), 3) := by decide +kernel
theorem dBl_bind_78 : decode mBl_bind.2.1 78 = .ok (.iconst 1, 1) := by decide +kernel
theorem dBl_bind_79 : decode mBl_bind.2.1 79 = .ok (.ireturn, 1) := by decide +kernel
def lBl_bind_2 (a2 : Int32) (w3 : Slot) (t : Nat) : List Slot := [.val (.ref t), .val (.ref 14), .val (.int a2), w3]
def lBl_bind_13 (a2 : Int32) (w3 : Slot) (t : Nat) : List Slot := [.val (.ref t), .val (.ref 14), .val (.int a2), w3]
def lBl_bind_35 (a2 : Int32) (w3 : Slot) (t : Nat) : List Slot := [.val (.ref t), .val (.ref 14), .val (.int a2), w3]
def lBl_bind_60 (a2 : Int32) (a3 : Int32) (t : Nat) : List Slot := [.val (.ref t), .val (.ref 14), .val (.int a2), .val (.int a3)]
theorem bBl_bind_0 {t : Nat} (hX : X.length = 13) (ht : kBl t) (k1 : QW d mBl_bind 2 (lBl_bind_2 0 .unset t) [] (hpo X mem sw o e) P) : QW d mBl_bind 0 (qen 4 [.ref t, .ref 14]) [] (hpo X mem sw o e) P := by
  show QW d mBl_bind 0 [.val (.ref t), .val (.ref 14), .unset, .unset] [] (hpo X mem sw o e) P
  refine QW.iconst (v := 0) dBl_bind_0 (by decide) ?_
  refine QW.istore_n (ls' := [.val (.ref t), .val (.ref 14), .val (.int 0), .unset]) dBl_bind_1 rfl rfl ?_
  exact k1
theorem bBl_bind_2 {t : Nat} {a2 : Int32} {w3 : Slot} (hX : X.length = 13) (ht : kBl t) (hw3 : qfr w3) (k1 : (15 ≤ a2) → P (.inl (some (.int 1)), (hpo X mem sw o e))) (k2 : (¬ 15 ≤ a2) → QW d mBl_isUsed 0 (qen 2 [.ref t, .int a2]) [] (hpo X mem sw o e) (qcl d mBl_bind 10 13 (lBl_bind_13 a2 w3 t) [] P)) : QW (d + 1) mBl_bind 2 (lBl_bind_2 a2 w3 t) [] (hpo X mem sw o e) P := by
  show QW (d + 1) mBl_bind 2 [.val (.ref t), .val (.ref 14), .val (.int a2), w3] [] (hpo X mem sw o e) P
  refine QW.iload_n dBl_bind_2 rfl rfl ?_
  refine QW.bipush (v := 15) dBl_bind_3 (by decide) ?_
  refine QW.icmp_ge (tgt := 78) dBl_bind_5 (by decide) (fun z0 => ?_) (fun z0 => ?_)
  · refine QW.iconst (v := 1) dBl_bind_78 (by decide) ?_
    exact QW.iret dBl_bind_79 rfl rfl (k1 z0)
  · refine QW.aload_n dBl_bind_8 rfl rfl ?_
    refine QW.iload_n dBl_bind_9 rfl rfl ?_
    exact MW.calV (as := [.int a2]) (rest := []) hX dBl_bind_10 eBl_isUsed lBl_49 iBl_isUsed vBl_isUsed rfl rfl (kBl_0 ht) rfl rfl rfl (Nat.le_of_ble_eq_true rfl) rfl (k2 z0)
theorem bBl_bind_13 {t : Nat} {a2 : Int32} {w3 : Slot} {s0 : Int32} (hX : X.length = 13) (ht : kBl t) (hw3 : qfr w3) (k1 : (s0 = 0) → QW (d + 1) mBl_bind 2 (lBl_bind_2 (a2 + 1) w3 t) [] (hpo X mem sw o e) P) (h2 : (¬ s0 = 0) → inx a2 15) (k3 : (¬ s0 = 0) → ((mem (t + 4) (Int32.toNatClampNeg a2)) = 0) → QW (d + 1) mBl_bind 2 (lBl_bind_2 (a2 + 1) w3 t) [] (hpo X mem sw o e) P) (h4 : (¬ s0 = 0) → (¬ (mem (t + 4) (Int32.toNatClampNeg a2)) = 0) → inx a2 15) (k5 : (¬ s0 = 0) → (¬ (mem (t + 4) (Int32.toNatClampNeg a2)) = 0) → QW d mBl_sourceNamed 0 (qen 3 [.ref t, .int (mem (t + 4) (Int32.toNatClampNeg a2))]) [] (hpo X mem sw o e) (qcl d mBl_bind 32 35 (lBl_bind_35 a2 w3 t) [] P)) : QW (d + 1) mBl_bind 13 (lBl_bind_13 a2 w3 t) [.int s0] (hpo X mem sw o e) P := by
  show QW (d + 1) mBl_bind 13 [.val (.ref t), .val (.ref 14), .val (.int a2), w3] [.int s0] (hpo X mem sw o e) P
  refine QW.if_eq (tgt := 72) dBl_bind_13 (by decide) (fun z0 => ?_) (fun z0 => ?_)
  · refine MW.iinc (c := 1) (ls' := [.val (.ref t), .val (.ref 14), .val (.int (a2 + 1)), w3]) dBl_bind_72 (by decide) rfl rfl ?_
    refine QW.goto (tgt := 2) dBl_bind_75 (by decide) ?_
    exact (k1 z0)
  · refine QW.aload_n dBl_bind_16 rfl rfl ?_
    refine MW.getr (r' := (t + 4)) hX dBl_bind_17 fBl_22 (kBl_0 ht) rfl (kBl_s4 ht _) ?_
    refine QW.iload_n dBl_bind_20 rfl rfl ?_
    refine MW.iald hX dBl_bind_21 (kBl_4 ht) (h2 z0).1 (rep_get (h2 z0).2) ?_
    refine QW.if_eq (tgt := 72) dBl_bind_22 (by decide) (fun z1 => ?_) (fun z1 => ?_)
    · refine MW.iinc (c := 1) (ls' := [.val (.ref t), .val (.ref 14), .val (.int (a2 + 1)), w3]) dBl_bind_72 (by decide) rfl rfl ?_
      refine QW.goto (tgt := 2) dBl_bind_75 (by decide) ?_
      exact (k3 z0 z1)
    · refine QW.aload_n dBl_bind_25 rfl rfl ?_
      refine QW.aload_n dBl_bind_26 rfl rfl ?_
      refine MW.getr (r' := (t + 4)) hX dBl_bind_27 fBl_22 (kBl_0 ht) rfl (kBl_s4 ht _) ?_
      refine QW.iload_n dBl_bind_30 rfl rfl ?_
      refine MW.iald hX dBl_bind_31 (kBl_4 ht) (h4 z0 z1).1 (rep_get (h4 z0 z1).2) ?_
      exact MW.calV (as := [.int (mem (t + 4) (Int32.toNatClampNeg a2))]) (rest := []) hX dBl_bind_32 eBl_sourceNamed lBl_53 iBl_sourceNamed vBl_sourceNamed rfl rfl (kBl_0 ht) rfl rfl rfl (Nat.le_of_ble_eq_true rfl) rfl (k5 z0 z1)
theorem bBl_bind_35 {t : Nat} {a2 : Int32} {w3 : Slot} {s0 : Int32} (hX : X.length = 13) (ht : kBl t) (hw3 : qfr w3) (k1 : (s0 < 0) → P (.inl (some (.int 0)), (hpo X mem sw o e))) (h2 : (¬ s0 < 0) → inx s0 4) (h3 : (¬ s0 < 0) → inx (mem (t + 1) (Int32.toNatClampNeg s0)) 4) (h4 : (¬ s0 < 0) → inx a2 15) (k5 : (¬ s0 < 0) → QW d mTab_hasColumn 0 (qen 2 [.ref (16 + 3 * (Int32.toNatClampNeg (mem (t + 1) (Int32.toNatClampNeg s0)))), .int (mem (t + 6) (Int32.toNatClampNeg a2))]) [] (hpo X mem sw o e) (qcl d mBl_bind 57 60 (lBl_bind_60 a2 s0 t) [] P)) : QW (d + 1) mBl_bind 35 (lBl_bind_35 a2 w3 t) [.int s0] (hpo X mem sw o e) P := by
  show QW (d + 1) mBl_bind 35 [.val (.ref t), .val (.ref 14), .val (.int a2), w3] [.int s0] (hpo X mem sw o e) P
  refine QW.istore_n (ls' := [.val (.ref t), .val (.ref 14), .val (.int a2), .val (.int s0)]) dBl_bind_35 rfl (by rcases hw3 with z | ⟨_, z⟩ | ⟨_, z⟩ <;> subst z <;> rfl) ?_
  refine QW.iload_n dBl_bind_36 rfl rfl ?_
  refine QW.if_lt (tgt := 63) dBl_bind_37 (by decide) (fun z0 => ?_) (fun z0 => ?_)
  · refine QW.iconst (v := 0) dBl_bind_63 (by decide) ?_
    exact QW.iret dBl_bind_64 rfl rfl (k1 z0)
  · refine QW.aload_n dBl_bind_40 rfl rfl ?_
    refine MW.getr (r' := 15) hX dBl_bind_41 fBl_56 rfl rfl (by cases sw <;> rfl) ?_
    refine QW.aload_n dBl_bind_44 rfl rfl ?_
    refine MW.getr (r' := (t + 1)) hX dBl_bind_45 fBl_9 (kBl_0 ht) rfl (kBl_s1 ht _) ?_
    refine QW.iload_n dBl_bind_48 rfl rfl ?_
    refine MW.iald hX dBl_bind_49 (kBl_1 ht) (h2 z0).1 (rep_get (h2 z0).2) ?_
    refine MW.aald (r' := (16 + 3 * (Int32.toNatClampNeg (mem (t + 1) (Int32.toNatClampNeg s0))))) hX dBl_bind_50 rfl rfl (Nat.le_of_ble_eq_true rfl) (h3 z0).1 (el_tab (h3 z0).2) (sw_tab (h3 z0).2) ?_
    refine QW.aload_n dBl_bind_51 rfl rfl ?_
    refine MW.getr (r' := (t + 6)) hX dBl_bind_52 fBl_28 (kBl_0 ht) rfl (kBl_s6 ht _) ?_
    refine QW.iload_n dBl_bind_55 rfl rfl ?_
    refine MW.iald hX dBl_bind_56 (kBl_6 ht) (h4 z0).1 (rep_get (h4 z0).2) ?_
    exact MW.calV (as := [.int (mem (t + 6) (Int32.toNatClampNeg a2))]) (rest := []) hX dBl_bind_57 eTab_hasColumn lBl_62 iTab_hasColumn vTab_hasColumn rfl rfl (kTab_0 (kTab_at (h3 z0).2)) rfl rfl rfl (Nat.le_of_ble_eq_true rfl) rfl (k5 z0)
theorem bBl_bind_60 {t : Nat} {a2 : Int32} {a3 : Int32} {s0 : Int32} (hX : X.length = 13) (ht : kBl t) (h1 : (¬ s0 = 0) → inx a2 15) (k2 : (¬ s0 = 0) → QW d mBl_bind 2 (lBl_bind_2 (a2 + 1) (.val (.int a3)) t) [] (hpo X (mup mem (t + 5) (Int32.toNatClampNeg a2) a3) sw o e) P) (k3 : (s0 = 0) → P (.inl (some (.int 0)), (hpo X mem sw o e))) : QW d mBl_bind 60 (lBl_bind_60 a2 a3 t) [.int s0] (hpo X mem sw o e) P := by
  show QW d mBl_bind 60 [.val (.ref t), .val (.ref 14), .val (.int a2), .val (.int a3)] [.int s0] (hpo X mem sw o e) P
  refine QW.if_ne (tgt := 65) dBl_bind_60 (by decide) (fun z0 => ?_) (fun z0 => ?_)
  · refine QW.aload_n dBl_bind_65 rfl rfl ?_
    refine MW.getr (r' := (t + 5)) hX dBl_bind_66 fBl_25 (kBl_0 ht) rfl (kBl_s5 ht _) ?_
    refine QW.iload_n dBl_bind_69 rfl rfl ?_
    refine QW.iload_n dBl_bind_70 rfl rfl ?_
    refine MW.iast hX dBl_bind_71 (kBl_5 ht) (h1 z0).1 (rep_get (h1 z0).2) ?_
    refine MW.iinc (c := 1) (ls' := [.val (.ref t), .val (.ref 14), .val (.int (a2 + 1)), .val (.int a3)]) dBl_bind_72 (by decide) rfl rfl ?_
    refine QW.goto (tgt := 2) dBl_bind_75 (by decide) ?_
    exact (k2 z0)
  · refine QW.iconst (v := 0) dBl_bind_63 (by decide) ?_
    exact QW.iret dBl_bind_64 rfl rfl (k3 z0)
theorem dNf_build_0 : decode mNf_build.2.1 0 = .ok (.aload_n 0, 1) := by decide +kernel
theorem dNf_build_1 : decode mNf_build.2.1 1 = .ok (.iconst 0, 1) := by decide +kernel
theorem dNf_build_2 : decode mNf_build.2.1 2 = .ok (.putfield 39, 3) := by decide +kernel
theorem dNf_build_5 : decode mNf_build.2.1 5 = .ok (.aload_n 0, 1) := by decide +kernel
theorem dNf_build_6 : decode mNf_build.2.1 6 = .ok (.aload_n 1, 1) := by decide +kernel
theorem dNf_build_7 : decode mNf_build.2.1 7 = .ok (.getfield 43, 3) := by decide +kernel
theorem dNf_build_10 : decode mNf_build.2.1 10 = .ok (.putfield 48, 3) := by decide +kernel
theorem dNf_build_13 : decode mNf_build.2.1 13 = .ok (.aload_n 0, 1) := by decide +kernel
theorem dNf_build_14 : decode mNf_build.2.1 14 = .ok (.aload_n 1, 1) := by decide +kernel
theorem dNf_build_15 : decode mNf_build.2.1 15 = .ok (.invokevirtual 49, 3) := by decide +kernel
theorem dNf_build_18 : decode mNf_build.2.1 18 = .ok (.iconst 0, 1) := by decide +kernel
theorem dNf_build_19 : decode mNf_build.2.1 19 = .ok (.istore_n 3, 1) := by decide +kernel
theorem dNf_build_20 : decode mNf_build.2.1 20 = .ok (.iload_n 3, 1) := by decide +kernel
theorem dNf_build_21 : decode mNf_build.2.1 21 = .ok (.bipush 27, 2) := by decide +kernel
theorem dNf_build_23 : decode mNf_build.2.1 23 = .ok (.if_icmp .ge 16, 3) := by decide +kernel
theorem dNf_build_26 : decode mNf_build.2.1 26 = .ok (.aload_n 0, 1) := by decide +kernel
theorem dNf_build_27 : decode mNf_build.2.1 27 = .ok (.getfield 33, 3) := by decide +kernel
theorem dNf_build_30 : decode mNf_build.2.1 30 = .ok (.iload_n 3, 1) := by decide +kernel
theorem dNf_build_31 : decode mNf_build.2.1 31 = .ok (.iload_n 3, 1) := by decide +kernel
theorem dNf_build_32 : decode mNf_build.2.1 32 = .ok (.iastore, 1) := by decide +kernel
theorem dNf_build_33 : decode mNf_build.2.1 33 = .ok (.iinc 3 1, 3) := by decide +kernel
theorem dNf_build_36 : decode mNf_build.2.1 36 = .ok (.goto (-16), 3) := by decide +kernel
theorem dNf_build_39 : decode mNf_build.2.1 39 = .ok (.aload_n 0, 1) := by decide +kernel
theorem dNf_build_40 : decode mNf_build.2.1 40 = .ok (.aload_n 1, 1) := by decide +kernel
theorem dNf_build_41 : decode mNf_build.2.1 41 = .ok (.invokevirtual 53, 3) := by decide +kernel
theorem dNf_build_44 : decode mNf_build.2.1 44 = .ok (.aload_n 0, 1) := by decide +kernel
theorem dNf_build_45 : decode mNf_build.2.1 45 = .ok (.aload_n 1, 1) := by decide +kernel
theorem dNf_build_46 : decode mNf_build.2.1 46 = .ok (.aload_n 2, 1) := by decide +kernel
theorem dNf_build_47 : decode mNf_build.2.1 47 = .ok (.invokevirtual 56, 3) := by decide +kernel
theorem dNf_build_50 : decode mNf_build.2.1 50 = .ok (.aload_n 0, 1) := by decide +kernel
theorem dNf_build_51 : decode mNf_build.2.1 51 = .ok (.invokevirtual 60, 3) := by decide +kernel
theorem dNf_build_54 : decode mNf_build.2.1 54 = .ok (.aload_n 0, 1) := by decide +kernel
theorem dNf_build_55 : decode mNf_build.2.1 55 = .ok (.aload_n 1, 1) := by decide +kernel
theorem dNf_build_56 : decode mNf_build.2.1 56 = .ok (.invokevirtual 63, 3) := by decide +kernel
theorem dNf_build_59 : decode mNf_build.2.1 59 = .ok (.aload_n 0, 1) := by decide +kernel
theorem dNf_build_60 : decode mNf_build.2.1 60 = .ok (.aload_n 1, 1) := by decide +kernel
theorem dNf_build_61 : decode mNf_build.2.1 61 = .ok (.invokevirtual 66, 3) := by decide +kernel
theorem dNf_build_64 : decode mNf_build.2.1 64 = .ok (.aload_n 0, 1) := by decide +kernel
theorem dNf_build_65 : decode mNf_build.2.1 65 = .ok (.aload_n 1, 1) := by decide +kernel
theorem dNf_build_66 : decode mNf_build.2.1 66 = .ok (.aload_n 2, 1) := by decide +kernel
theorem dNf_build_67 : decode mNf_build.2.1 67 = .ok (.invokevirtual 69, 3) := by decide +kernel
theorem dNf_build_70 : decode mNf_build.2.1 70 = .ok (.return_, 1) := by decide +kernel
def lNf_build_18 (t : Nat) (r1 : Nat) : List Slot := [.val (.ref t), .val (.ref r1), .val (.ref 14), .unset]
def lNf_build_20 (a3 : Int32) (t : Nat) (r1 : Nat) : List Slot := [.val (.ref t), .val (.ref r1), .val (.ref 14), .val (.int a3)]
def lNf_build_44 (a3 : Int32) (t : Nat) (r1 : Nat) : List Slot := [.val (.ref t), .val (.ref r1), .val (.ref 14), .val (.int a3)]
def lNf_build_50 (a3 : Int32) (t : Nat) (r1 : Nat) : List Slot := [.val (.ref t), .val (.ref r1), .val (.ref 14), .val (.int a3)]
def lNf_build_54 (a3 : Int32) (t : Nat) (r1 : Nat) : List Slot := [.val (.ref t), .val (.ref r1), .val (.ref 14), .val (.int a3)]
def lNf_build_59 (a3 : Int32) (t : Nat) (r1 : Nat) : List Slot := [.val (.ref t), .val (.ref r1), .val (.ref 14), .val (.int a3)]
def lNf_build_64 (a3 : Int32) (t : Nat) (r1 : Nat) : List Slot := [.val (.ref t), .val (.ref r1), .val (.ref 14), .val (.int a3)]
def lNf_build_70 (a3 : Int32) (t : Nat) (r1 : Nat) : List Slot := [.val (.ref t), .val (.ref r1), .val (.ref 14), .val (.int a3)]
theorem bNf_build_0 {t : Nat} {r1 : Nat} (hX : X.length = 13) (ht : kNf t) (hr1 : kBl r1) (h1 : narrow .boolean (.int ((mup mem t 0 0) r1 0)) = .int ((mup mem t 0 0) r1 0)) (h2 : fits .boolean (.int ((mup mem t 0 0) r1 0)) = true) (k3 : QW d mNf_collectNumbers 0 (qen 3 [.ref t, .ref r1]) [] (hpo X (mup (mup mem t 0 0) t 1 ((mup mem t 0 0) r1 0)) sw o e) (qcl d mNf_build 15 18 (lNf_build_18 t r1) [] P)) : QW (d + 1) mNf_build 0 (qen 4 [.ref t, .ref r1, .ref 14]) [] (hpo X mem sw o e) P := by
  show QW (d + 1) mNf_build 0 [.val (.ref t), .val (.ref r1), .val (.ref 14), .unset] [] (hpo X mem sw o e) P
  refine QW.aload_n dNf_build_0 rfl rfl ?_
  refine QW.iconst (v := 0) dNf_build_1 (by decide) ?_
  refine MW.putz hX dNf_build_2 fNf_39 (kNf_0 ht) rfl rfl rfl rfl ?_
  refine QW.aload_n dNf_build_5 rfl rfl ?_
  refine QW.aload_n dNf_build_6 rfl rfl ?_
  refine MW.geti hX dNf_build_7 fNf_43 (kBl_0 hr1) rfl ?_
  refine MW.putz hX dNf_build_10 fNf_48 (kNf_0 ht) rfl rfl h1 h2 ?_
  refine QW.aload_n dNf_build_13 rfl rfl ?_
  refine QW.aload_n dNf_build_14 rfl rfl ?_
  exact MW.calV (as := [.ref r1]) (rest := []) hX dNf_build_15 eNf_collectNumbers lNf_49 iNf_collectNumbers vNf_collectNumbers rfl rfl (kNf_0 ht) rfl rfl rfl (Nat.le_of_ble_eq_true rfl) rfl k3
theorem bNf_build_18 {t : Nat} {r1 : Nat} (hX : X.length = 13) (ht : kNf t) (hr1 : kBl r1) (k1 : QW d mNf_build 20 (lNf_build_20 0 t r1) [] (hpo X mem sw o e) P) : QW d mNf_build 18 (lNf_build_18 t r1) [] (hpo X mem sw o e) P := by
  show QW d mNf_build 18 [.val (.ref t), .val (.ref r1), .val (.ref 14), .unset] [] (hpo X mem sw o e) P
  refine QW.iconst (v := 0) dNf_build_18 (by decide) ?_
  refine QW.istore_n (ls' := [.val (.ref t), .val (.ref r1), .val (.ref 14), .val (.int 0)]) dNf_build_19 rfl rfl ?_
  exact k1
theorem bNf_build_20 {t : Nat} {r1 : Nat} {a3 : Int32} (hX : X.length = 13) (ht : kNf t) (hr1 : kBl r1) (k1 : (27 ≤ a3) → QW d mNf_joinEqualSides 0 (qen 3 [.ref t, .ref r1]) [] (hpo X mem sw o e) (qcl d mNf_build 41 44 (lNf_build_44 a3 t r1) [] P)) (h2 : (¬ 27 ≤ a3) → inx a3 27) (k3 : (¬ 27 ≤ a3) → QW (d + 1) mNf_build 20 (lNf_build_20 (a3 + 1) t r1) [] (hpo X (mup mem (t + 8) (Int32.toNatClampNeg a3) a3) sw o e) P) : QW (d + 1) mNf_build 20 (lNf_build_20 a3 t r1) [] (hpo X mem sw o e) P := by
  show QW (d + 1) mNf_build 20 [.val (.ref t), .val (.ref r1), .val (.ref 14), .val (.int a3)] [] (hpo X mem sw o e) P
  refine QW.iload_n dNf_build_20 rfl rfl ?_
  refine QW.bipush (v := 27) dNf_build_21 (by decide) ?_
  refine QW.icmp_ge (tgt := 39) dNf_build_23 (by decide) (fun z0 => ?_) (fun z0 => ?_)
  · refine QW.aload_n dNf_build_39 rfl rfl ?_
    refine QW.aload_n dNf_build_40 rfl rfl ?_
    exact MW.calV (as := [.ref r1]) (rest := []) hX dNf_build_41 eNf_joinEqualSides lNf_53 iNf_joinEqualSides vNf_joinEqualSides rfl rfl (kNf_0 ht) rfl rfl rfl (Nat.le_of_ble_eq_true rfl) rfl (k1 z0)
  · refine QW.aload_n dNf_build_26 rfl rfl ?_
    refine MW.getr (r' := (t + 8)) hX dNf_build_27 fNf_33 (kNf_0 ht) rfl (kNf_s8 ht _) ?_
    refine QW.iload_n dNf_build_30 rfl rfl ?_
    refine QW.iload_n dNf_build_31 rfl rfl ?_
    refine MW.iast hX dNf_build_32 (kNf_8 ht) (h2 z0).1 (rep_get (h2 z0).2) ?_
    refine MW.iinc (c := 1) (ls' := [.val (.ref t), .val (.ref r1), .val (.ref 14), .val (.int (a3 + 1))]) dNf_build_33 (by decide) rfl rfl ?_
    refine QW.goto (tgt := 20) dNf_build_36 (by decide) ?_
    exact (k3 z0)
theorem bNf_build_44 {t : Nat} {r1 : Nat} {a3 : Int32} (hX : X.length = 13) (ht : kNf t) (hr1 : kBl r1) (k1 : QW d mNf_joinOnes 0 (qen 7 [.ref t, .ref r1, .ref 14]) [] (hpo X mem sw o e) (qcl d mNf_build 47 50 (lNf_build_50 a3 t r1) [] P)) : QW (d + 1) mNf_build 44 (lNf_build_44 a3 t r1) [] (hpo X mem sw o e) P := by
  show QW (d + 1) mNf_build 44 [.val (.ref t), .val (.ref r1), .val (.ref 14), .val (.int a3)] [] (hpo X mem sw o e) P
  refine QW.aload_n dNf_build_44 rfl rfl ?_
  refine QW.aload_n dNf_build_45 rfl rfl ?_
  refine QW.aload_n dNf_build_46 rfl rfl ?_
  exact MW.calV (as := [.ref r1, .ref 14]) (rest := []) hX dNf_build_47 eNf_joinOnes lNf_56 iNf_joinOnes vNf_joinOnes rfl rfl (kNf_0 ht) rfl rfl rfl (Nat.le_of_ble_eq_true rfl) rfl k1
theorem bNf_build_50 {t : Nat} {r1 : Nat} {a3 : Int32} (hX : X.length = 13) (ht : kNf t) (hr1 : kBl r1) (k1 : QW d mNf_numberClasses 0 (qen 3 [.ref t]) [] (hpo X mem sw o e) (qcl d mNf_build 51 54 (lNf_build_54 a3 t r1) [] P)) : QW (d + 1) mNf_build 50 (lNf_build_50 a3 t r1) [] (hpo X mem sw o e) P := by
  show QW (d + 1) mNf_build 50 [.val (.ref t), .val (.ref r1), .val (.ref 14), .val (.int a3)] [] (hpo X mem sw o e) P
  refine QW.aload_n dNf_build_50 rfl rfl ?_
  exact MW.calV (as := []) (rest := []) hX dNf_build_51 eNf_numberClasses lNf_60 iNf_numberClasses vNf_numberClasses rfl rfl (kNf_0 ht) rfl rfl rfl (Nat.le_of_ble_eq_true rfl) rfl k1
theorem bNf_build_54 {t : Nat} {r1 : Nat} {a3 : Int32} (hX : X.length = 13) (ht : kNf t) (hr1 : kBl r1) (k1 : QW d mNf_findLess 0 (qen 3 [.ref t, .ref r1]) [] (hpo X mem sw o e) (qcl d mNf_build 56 59 (lNf_build_59 a3 t r1) [] P)) : QW (d + 1) mNf_build 54 (lNf_build_54 a3 t r1) [] (hpo X mem sw o e) P := by
  show QW (d + 1) mNf_build 54 [.val (.ref t), .val (.ref r1), .val (.ref 14), .val (.int a3)] [] (hpo X mem sw o e) P
  refine QW.aload_n dNf_build_54 rfl rfl ?_
  refine QW.aload_n dNf_build_55 rfl rfl ?_
  exact MW.calV (as := [.ref r1]) (rest := []) hX dNf_build_56 eNf_findLess lNf_63 iNf_findLess vNf_findLess rfl rfl (kNf_0 ht) rfl rfl rfl (Nat.le_of_ble_eq_true rfl) rfl k1
theorem bNf_build_59 {t : Nat} {r1 : Nat} {a3 : Int32} (hX : X.length = 13) (ht : kNf t) (hr1 : kBl r1) (k1 : QW d mNf_findOutputs 0 (qen 3 [.ref t, .ref r1]) [] (hpo X mem sw o e) (qcl d mNf_build 61 64 (lNf_build_64 a3 t r1) [] P)) : QW (d + 1) mNf_build 59 (lNf_build_59 a3 t r1) [] (hpo X mem sw o e) P := by
  show QW (d + 1) mNf_build 59 [.val (.ref t), .val (.ref r1), .val (.ref 14), .val (.int a3)] [] (hpo X mem sw o e) P
  refine QW.aload_n dNf_build_59 rfl rfl ?_
  refine QW.aload_n dNf_build_60 rfl rfl ?_
  exact MW.calV (as := [.ref r1]) (rest := []) hX dNf_build_61 eNf_findOutputs lNf_66 iNf_findOutputs vNf_findOutputs rfl rfl (kNf_0 ht) rfl rfl rfl (Nat.le_of_ble_eq_true rfl) rfl k1
theorem bNf_build_64 {t : Nat} {r1 : Nat} {a3 : Int32} (hX : X.length = 13) (ht : kNf t) (hr1 : kBl r1) (k1 : QW d mNf_findLeft 0 (qen 4 [.ref t, .ref r1, .ref 14]) [] (hpo X mem sw o e) (qcl d mNf_build 67 70 (lNf_build_70 a3 t r1) [] P)) : QW (d + 1) mNf_build 64 (lNf_build_64 a3 t r1) [] (hpo X mem sw o e) P := by
  show QW (d + 1) mNf_build 64 [.val (.ref t), .val (.ref r1), .val (.ref 14), .val (.int a3)] [] (hpo X mem sw o e) P
  refine QW.aload_n dNf_build_64 rfl rfl ?_
  refine QW.aload_n dNf_build_65 rfl rfl ?_
  refine QW.aload_n dNf_build_66 rfl rfl ?_
  exact MW.calV (as := [.ref r1, .ref 14]) (rest := []) hX dNf_build_67 eNf_findLeft lNf_69 iNf_findLeft vNf_findLeft rfl rfl (kNf_0 ht) rfl rfl rfl (Nat.le_of_ble_eq_true rfl) rfl k1
theorem bNf_build_70 {t : Nat} {r1 : Nat} {a3 : Int32} (hX : X.length = 13) (ht : kNf t) (hr1 : kBl r1) (k1 : P (.inl none, (hpo X mem sw o e))) : QW d mNf_build 70 (lNf_build_70 a3 t r1) [] (hpo X mem sw o e) P := by
  show QW d mNf_build 70 [.val (.ref t), .val (.ref r1), .val (.ref 14), .val (.int a3)] [] (hpo X mem sw o e) P
  exact QW.vret dNf_build_70 rfl k1
theorem dNf_classOf_0 : decode mNf_classOf.2.1 0 = .ok (.aload_n 0, 1) := by decide +kernel
theorem dNf_classOf_1 : decode mNf_classOf.2.1 1 = .ok (.getfield 33, 3) := by decide +kernel
theorem dNf_classOf_4 : decode mNf_classOf.2.1 4 = .ok (.aload_n 0, 1) := by decide +kernel
theorem dNf_classOf_5 : decode mNf_classOf.2.1 5 = .ok (.getfield 21, 3) := by decide +kernel
theorem dNf_classOf_8 : decode mNf_classOf.2.1 8 = .ok (.iload_n 1, 1) := by decide +kernel
theorem dNf_classOf_9 : decode mNf_classOf.2.1 9 = .ok (.iaload, 1) := by decide +kernel
theorem dNf_classOf_10 : decode mNf_classOf.2.1 10 = .ok (.iconst 3, 1) := by decide +kernel
theorem dNf_classOf_11 : decode mNf_classOf.2.1 11 = .ok (.imul, 1) := by decide +kernel
theorem dNf_classOf_12 : decode mNf_classOf.2.1 12 = .ok (.iload_n 2, 1) := by decide +kernel
theorem dNf_classOf_13 : decode mNf_classOf.2.1 13 = .ok (.iadd, 1) := by decide +kernel
theorem dNf_classOf_14 : decode mNf_classOf.2.1 14 = .ok (.iaload, 1) := by decide +kernel
theorem dNf_classOf_15 : decode mNf_classOf.2.1 15 = .ok (.ireturn, 1) := by decide +kernel
theorem bNf_classOf_0 {t : Nat} {a1 : Int32} {a2 : Int32} (hX : X.length = 13) (ht : kNf t) (h1 : inx a1 4) (h2 : inx (((mem (t + 4) (Int32.toNatClampNeg a1)) * 3) + a2) 27) (k3 : P (.inl (some (.int (mem (t + 8) (Int32.toNatClampNeg (((mem (t + 4) (Int32.toNatClampNeg a1)) * 3) + a2))))), (hpo X mem sw o e))) : QW d mNf_classOf 0 (qen 3 [.ref t, .int a1, .int a2]) [] (hpo X mem sw o e) P := by
  show QW d mNf_classOf 0 [.val (.ref t), .val (.int a1), .val (.int a2)] [] (hpo X mem sw o e) P
  refine QW.aload_n dNf_classOf_0 rfl rfl ?_
  refine MW.getr (r' := (t + 8)) hX dNf_classOf_1 fNf_33 (kNf_0 ht) rfl (kNf_s8 ht _) ?_
  refine QW.aload_n dNf_classOf_4 rfl rfl ?_
  refine MW.getr (r' := (t + 4)) hX dNf_classOf_5 fNf_21 (kNf_0 ht) rfl (kNf_s4 ht _) ?_
  refine QW.iload_n dNf_classOf_8 rfl rfl ?_
  refine MW.iald hX dNf_classOf_9 (kNf_4 ht) h1.1 (rep_get h1.2) ?_
  refine QW.iconst (v := 3) dNf_classOf_10 (by decide) ?_
  refine QW.imul dNf_classOf_11 ?_
  refine QW.iload_n dNf_classOf_12 rfl rfl ?_
  refine QW.iadd dNf_classOf_13 ?_
  refine MW.iald hX dNf_classOf_14 (kNf_8 ht) h2.1 (rep_get h2.2) ?_
  exact QW.iret dNf_classOf_15 rfl rfl k3
theorem dNf_collectNumbers_0 : decode mNf_collectNumbers.2.1 0 = .ok (.aload_n 0, 1) := by decide +kernel
theorem dNf_collectNumbers_1 : decode mNf_collectNumbers.2.1 1 = .ok (.iconst 0, 1) := by decide +kernel
theorem dNf_collectNumbers_2 : decode mNf_collectNumbers.2.1 2 = .ok (.putfield 72, 3) := by decide +kernel
theorem dNf_collectNumbers_5 : decode mNf_collectNumbers.2.1 5 = .ok (.iconst 0, 1) := by decide +kernel
theorem dNf_collectNumbers_6 : decode mNf_collectNumbers.2.1 6 = .ok (.istore_n 2, 1) := by decide +kernel
theorem dNf_collectNumbers_7 : decode mNf_collectNumbers.2.1 7 = .ok (.iload_n 2, 1) := by decide +kernel
theorem dNf_collectNumbers_8 : decode mNf_collectNumbers.2.1 8 = .ok (.bipush 15, 2) := by decide +kernel
theorem dNf_collectNumbers_10 : decode mNf_collectNumbers.2.1 10 = .ok (.if_icmp .ge 64, 3) := by decide +kernel
theorem dNf_collectNumbers_13 : decode mNf_collectNumbers.2.1 13 = .ok (.aload_n 1, 1) := by decide +kernel
theorem dNf_collectNumbers_14 : decode mNf_collectNumbers.2.1 14 = .ok (.iload_n 2, 1) := by decide +kernel
theorem dNf_collectNumbers_15 : decode mNf_collectNumbers.2.1 15 = .ok (.invokevirtual 76, 3) := by decide +kernel
theorem dNf_collectNumbers_18 : decode mNf_collectNumbers.2.1 18 = .ok (.ifCond .eq 50, 3) := by decide +kernel
theorem dNf_collectNumbers_21 : decode mNf_collectNumbers.2.1 21 = .ok (.aload_n 1, 1) := by decide +kernel
theorem dNf_collectNumbers_22 : decode mNf_collectNumbers.2.1 22 = .ok (.getfield 80, 3) := by decide +kernel
theorem dNf_collectNumbers_25 : decode mNf_collectNumbers.2.1 25 = .ok (.iload_n 2, 1) := by decide +kernel
theorem dNf_collectNumbers_26 : decode mNf_collectNumbers.2.1 26 = .ok (.iaload, 1) := by decide +kernel
theorem dNf_collectNumbers_27 : decode mNf_collectNumbers.2.1 27 = .ok (.ifCond .ge 41, 3) := by decide +kernel
theorem dNf_collectNumbers_30 : decode mNf_collectNumbers.2.1 30 = .ok (.aload_n 0, 1) := by decide +kernel
theorem dNf_collectNumbers_31 : decode mNf_collectNumbers.2.1 31 = .ok (.aload_n 1, 1) := by decide +kernel
theorem dNf_collectNumbers_32 : decode mNf_collectNumbers.2.1 32 = .ok (.getfield 83, 3) := by decide +kernel
theorem dNf_collectNumbers_35 : decode mNf_collectNumbers.2.1 35 = .ok (.iload_n 2, 1) := by decide +kernel
theorem dNf_collectNumbers_36 : decode mNf_collectNumbers.2.1 36 = .ok (.iaload, 1) := by decide +kernel
theorem dNf_collectNumbers_37 : decode mNf_collectNumbers.2.1 37 = .ok (.invokevirtual 86, 3) := by decide +kernel
theorem dNf_collectNumbers_40 : decode mNf_collectNumbers.2.1 40 = .ok (.ifCond .ge 28, 3) := by decide +kernel
theorem dNf_collectNumbers_43 : decode mNf_collectNumbers.2.1 43 = .ok (.aload_n 0, 1) := by decide +kernel
theorem dNf_collectNumbers_44 : decode mNf_collectNumbers.2.1 44 = .ok (.getfield 30, 3) := by decide +kernel
theorem dNf_collectNumbers_47 : decode mNf_collectNumbers.2.1 47 = .ok (.aload_n 0, 1) := by decide +kernel
theorem dNf_collectNumbers_48 : decode mNf_collectNumbers.2.1 48 = .ok (.getfield 72, 3) := by decide +kernel
theorem dNf_collectNumbers_51 : decode mNf_collectNumbers.2.1 51 = .ok (.aload_n 1, 1) := by decide +kernel
theorem dNf_collectNumbers_52 : decode mNf_collectNumbers.2.1 52 = .ok (.getfield 83, 3) := by decide +kernel
theorem dNf_collectNumbers_55 : decode mNf_collectNumbers.2.1 55 = .ok (.iload_n 2, 1) := by decide +kernel
theorem dNf_collectNumbers_56 : decode mNf_collectNumbers.2.1 56 = .ok (.iaload, 1) := by decide +kernel
theorem dNf_collectNumbers_57 : decode mNf_collectNumbers.2.1 57 = .ok (.iastore, 1) := by decide +kernel
theorem dNf_collectNumbers_58 : decode mNf_collectNumbers.2.1 58 = .ok (.aload_n 0, 1) := by decide +kernel
theorem dNf_collectNumbers_59 : decode mNf_collectNumbers.2.1 59 = .ok (.dup, 1) := by decide +kernel
theorem dNf_collectNumbers_60 : decode mNf_collectNumbers.2.1 60 = .ok (.getfield 72, 3) := by decide +kernel
theorem dNf_collectNumbers_63 : decode mNf_collectNumbers.2.1 63 = .ok (.iconst 1, 1) := by decide +kernel
theorem dNf_collectNumbers_64 : decode mNf_collectNumbers.2.1 64 = .ok (.iadd, 1) := by decide +kernel
theorem dNf_collectNumbers_65 : decode mNf_collectNumbers.2.1 65 = .ok (.putfield 72, 3) := by decide +kernel
theorem dNf_collectNumbers_68 : decode mNf_collectNumbers.2.1 68 = .ok (.iinc 2 1, 3) := by decide +kernel
theorem dNf_collectNumbers_71 : decode mNf_collectNumbers.2.1 71 = .ok (.goto (-64), 3) := by decide +kernel
theorem dNf_collectNumbers_74 : decode mNf_collectNumbers.2.1 74 = .ok (.return_, 1) := by decide +kernel
def lNf_collectNumbers_7 (a2 : Int32) (t : Nat) (r1 : Nat) : List Slot := [.val (.ref t), .val (.ref r1), .val (.int a2)]
def lNf_collectNumbers_18 (a2 : Int32) (t : Nat) (r1 : Nat) : List Slot := [.val (.ref t), .val (.ref r1), .val (.int a2)]
def lNf_collectNumbers_40 (a2 : Int32) (t : Nat) (r1 : Nat) : List Slot := [.val (.ref t), .val (.ref r1), .val (.int a2)]
theorem bNf_collectNumbers_0 {t : Nat} {r1 : Nat} (hX : X.length = 13) (ht : kNf t) (hr1 : kBl r1) (k1 : QW d mNf_collectNumbers 7 (lNf_collectNumbers_7 0 t r1) [] (hpo X (mup mem t 11 0) sw o e) P) : QW d mNf_collectNumbers 0 (qen 3 [.ref t, .ref r1]) [] (hpo X mem sw o e) P := by
  show QW d mNf_collectNumbers 0 [.val (.ref t), .val (.ref r1), .unset] [] (hpo X mem sw o e) P
  refine QW.aload_n dNf_collectNumbers_0 rfl rfl ?_
  refine QW.iconst (v := 0) dNf_collectNumbers_1 (by decide) ?_
  refine MW.puti hX dNf_collectNumbers_2 fNf_72 (kNf_0 ht) rfl rfl ?_
  refine QW.iconst (v := 0) dNf_collectNumbers_5 (by decide) ?_
  refine QW.istore_n (ls' := [.val (.ref t), .val (.ref r1), .val (.int 0)]) dNf_collectNumbers_6 rfl rfl ?_
  exact k1
theorem bNf_collectNumbers_7 {t : Nat} {r1 : Nat} {a2 : Int32} (hX : X.length = 13) (ht : kNf t) (hr1 : kBl r1) (k1 : (15 ≤ a2) → P (.inl none, (hpo X mem sw o e))) (k2 : (¬ 15 ≤ a2) → QW d mBl_isUsed 0 (qen 2 [.ref r1, .int a2]) [] (hpo X mem sw o e) (qcl d mNf_collectNumbers 15 18 (lNf_collectNumbers_18 a2 t r1) [] P)) : QW (d + 1) mNf_collectNumbers 7 (lNf_collectNumbers_7 a2 t r1) [] (hpo X mem sw o e) P := by
  show QW (d + 1) mNf_collectNumbers 7 [.val (.ref t), .val (.ref r1), .val (.int a2)] [] (hpo X mem sw o e) P
  refine QW.iload_n dNf_collectNumbers_7 rfl rfl ?_
  refine QW.bipush (v := 15) dNf_collectNumbers_8 (by decide) ?_
  refine QW.icmp_ge (tgt := 74) dNf_collectNumbers_10 (by decide) (fun z0 => ?_) (fun z0 => ?_)
  · exact QW.vret dNf_collectNumbers_74 rfl (k1 z0)
  · refine QW.aload_n dNf_collectNumbers_13 rfl rfl ?_
    refine QW.iload_n dNf_collectNumbers_14 rfl rfl ?_
    exact MW.calV (as := [.int a2]) (rest := []) hX dNf_collectNumbers_15 eBl_isUsed lNf_76 iBl_isUsed vBl_isUsed rfl rfl (kBl_0 hr1) rfl rfl rfl (Nat.le_of_ble_eq_true rfl) rfl (k2 z0)
theorem bNf_collectNumbers_18 {t : Nat} {r1 : Nat} {a2 : Int32} {s0 : Int32} (hX : X.length = 13) (ht : kNf t) (hr1 : kBl r1) (k1 : (s0 = 0) → QW (d + 1) mNf_collectNumbers 7 (lNf_collectNumbers_7 (a2 + 1) t r1) [] (hpo X mem sw o e) P) (h2 : (¬ s0 = 0) → inx a2 15) (k3 : (¬ s0 = 0) → (0 ≤ (mem (r1 + 5) (Int32.toNatClampNeg a2))) → QW (d + 1) mNf_collectNumbers 7 (lNf_collectNumbers_7 (a2 + 1) t r1) [] (hpo X mem sw o e) P) (h4 : (¬ s0 = 0) → (¬ 0 ≤ (mem (r1 + 5) (Int32.toNatClampNeg a2))) → inx a2 15) (k5 : (¬ s0 = 0) → (¬ 0 ≤ (mem (r1 + 5) (Int32.toNatClampNeg a2))) → QW d mNf_indexOf 0 (qen 3 [.ref t, .int (mem (r1 + 6) (Int32.toNatClampNeg a2))]) [] (hpo X mem sw o e) (qcl d mNf_collectNumbers 37 40 (lNf_collectNumbers_40 a2 t r1) [] P)) : QW (d + 1) mNf_collectNumbers 18 (lNf_collectNumbers_18 a2 t r1) [.int s0] (hpo X mem sw o e) P := by
  show QW (d + 1) mNf_collectNumbers 18 [.val (.ref t), .val (.ref r1), .val (.int a2)] [.int s0] (hpo X mem sw o e) P
  refine QW.if_eq (tgt := 68) dNf_collectNumbers_18 (by decide) (fun z0 => ?_) (fun z0 => ?_)
  · refine MW.iinc (c := 1) (ls' := [.val (.ref t), .val (.ref r1), .val (.int (a2 + 1))]) dNf_collectNumbers_68 (by decide) rfl rfl ?_
    refine QW.goto (tgt := 7) dNf_collectNumbers_71 (by decide) ?_
    exact (k1 z0)
  · refine QW.aload_n dNf_collectNumbers_21 rfl rfl ?_
    refine MW.getr (r' := (r1 + 5)) hX dNf_collectNumbers_22 fNf_80 (kBl_0 hr1) rfl (kBl_s5 hr1 _) ?_
    refine QW.iload_n dNf_collectNumbers_25 rfl rfl ?_
    refine MW.iald hX dNf_collectNumbers_26 (kBl_5 hr1) (h2 z0).1 (rep_get (h2 z0).2) ?_
    refine QW.if_ge (tgt := 68) dNf_collectNumbers_27 (by decide) (fun z1 => ?_) (fun z1 => ?_)
    · refine MW.iinc (c := 1) (ls' := [.val (.ref t), .val (.ref r1), .val (.int (a2 + 1))]) dNf_collectNumbers_68 (by decide) rfl rfl ?_
      refine QW.goto (tgt := 7) dNf_collectNumbers_71 (by decide) ?_
      exact (k3 z0 z1)
    · refine QW.aload_n dNf_collectNumbers_30 rfl rfl ?_
      refine QW.aload_n dNf_collectNumbers_31 rfl rfl ?_
      refine MW.getr (r' := (r1 + 6)) hX dNf_collectNumbers_32 fNf_83 (kBl_0 hr1) rfl (kBl_s6 hr1 _) ?_
      refine QW.iload_n dNf_collectNumbers_35 rfl rfl ?_
      refine MW.iald hX dNf_collectNumbers_36 (kBl_6 hr1) (h4 z0 z1).1 (rep_get (h4 z0 z1).2) ?_
      exact MW.calV (as := [.int (mem (r1 + 6) (Int32.toNatClampNeg a2))]) (rest := []) hX dNf_collectNumbers_37 eNf_indexOf lNf_86 iNf_indexOf vNf_indexOf rfl rfl (kNf_0 ht) rfl rfl rfl (Nat.le_of_ble_eq_true rfl) rfl (k5 z0 z1)
theorem bNf_collectNumbers_40 {t : Nat} {r1 : Nat} {a2 : Int32} {s0 : Int32} (hX : X.length = 13) (ht : kNf t) (hr1 : kBl r1) (k1 : (0 ≤ s0) → QW d mNf_collectNumbers 7 (lNf_collectNumbers_7 (a2 + 1) t r1) [] (hpo X mem sw o e) P) (h2 : (¬ 0 ≤ s0) → inx a2 15) (h3 : (¬ 0 ≤ s0) → inx (mem t 11) 15) (k4 : (¬ 0 ≤ s0) → QW d mNf_collectNumbers 7 (lNf_collectNumbers_7 (a2 + 1) t r1) [] (hpo X (mup (mup mem (t + 7) (Int32.toNatClampNeg (mem t 11)) (mem (r1 + 6) (Int32.toNatClampNeg a2))) t 11 (((mup mem (t + 7) (Int32.toNatClampNeg (mem t 11)) (mem (r1 + 6) (Int32.toNatClampNeg a2))) t 11) + 1)) sw o e) P) : QW d mNf_collectNumbers 40 (lNf_collectNumbers_40 a2 t r1) [.int s0] (hpo X mem sw o e) P := by
  show QW d mNf_collectNumbers 40 [.val (.ref t), .val (.ref r1), .val (.int a2)] [.int s0] (hpo X mem sw o e) P
  refine QW.if_ge (tgt := 68) dNf_collectNumbers_40 (by decide) (fun z0 => ?_) (fun z0 => ?_)
  · refine MW.iinc (c := 1) (ls' := [.val (.ref t), .val (.ref r1), .val (.int (a2 + 1))]) dNf_collectNumbers_68 (by decide) rfl rfl ?_
    refine QW.goto (tgt := 7) dNf_collectNumbers_71 (by decide) ?_
    exact (k1 z0)
  · refine QW.aload_n dNf_collectNumbers_43 rfl rfl ?_
    refine MW.getr (r' := (t + 7)) hX dNf_collectNumbers_44 fNf_30 (kNf_0 ht) rfl (kNf_s7 ht _) ?_
    refine QW.aload_n dNf_collectNumbers_47 rfl rfl ?_
    refine MW.geti hX dNf_collectNumbers_48 fNf_72 (kNf_0 ht) rfl ?_
    refine QW.aload_n dNf_collectNumbers_51 rfl rfl ?_
    refine MW.getr (r' := (r1 + 6)) hX dNf_collectNumbers_52 fNf_83 (kBl_0 hr1) rfl (kBl_s6 hr1 _) ?_
    refine QW.iload_n dNf_collectNumbers_55 rfl rfl ?_
    refine MW.iald hX dNf_collectNumbers_56 (kBl_6 hr1) (h2 z0).1 (rep_get (h2 z0).2) ?_
    refine MW.iast hX dNf_collectNumbers_57 (kNf_7 ht) (h3 z0).1 (rep_get (h3 z0).2) ?_
    refine QW.aload_n dNf_collectNumbers_58 rfl rfl ?_
    refine QW.dup dNf_collectNumbers_59 rfl ?_
    refine MW.geti hX dNf_collectNumbers_60 fNf_72 (kNf_0 ht) rfl ?_
    refine QW.iconst (v := 1) dNf_collectNumbers_63 (by decide) ?_
    refine QW.iadd dNf_collectNumbers_64 ?_
    refine MW.puti hX dNf_collectNumbers_65 fNf_72 (kNf_0 ht) rfl rfl ?_
    refine MW.iinc (c := 1) (ls' := [.val (.ref t), .val (.ref r1), .val (.int (a2 + 1))]) dNf_collectNumbers_68 (by decide) rfl rfl ?_
    refine QW.goto (tgt := 7) dNf_collectNumbers_71 (by decide) ?_
    exact (k4 z0)
theorem dNf_indexOf_0 : decode mNf_indexOf.2.1 0 = .ok (.iconst 0, 1) := by decide +kernel
theorem dNf_indexOf_1 : decode mNf_indexOf.2.1 1 = .ok (.istore_n 2, 1) := by decide +kernel
theorem dNf_indexOf_2 : decode mNf_indexOf.2.1 2 = .ok (.iload_n 2, 1) := by decide +kernel
theorem dNf_indexOf_3 : decode mNf_indexOf.2.1 3 = .ok (.aload_n 0, 1) := by decide +kernel
theorem dNf_indexOf_4 : decode mNf_indexOf.2.1 4 = .ok (.getfield 72, 3) := by decide +kernel
theorem dNf_indexOf_7 : decode mNf_indexOf.2.1 7 = .ok (.if_icmp .ge 21, 3) := by decide +kernel
theorem dNf_indexOf_10 : decode mNf_indexOf.2.1 10 = .ok (.aload_n 0, 1) := by decide +kernel
theorem dNf_indexOf_11 : decode mNf_indexOf.2.1 11 = .ok (.getfield 30, 3) := by decide +kernel
theorem dNf_indexOf_14 : decode mNf_indexOf.2.1 14 = .ok (.iload_n 2, 1) := by decide +kernel
theorem dNf_indexOf_15 : decode mNf_indexOf.2.1 15 = .ok (.iaload, 1) := by decide +kernel
theorem dNf_indexOf_16 : decode mNf_indexOf.2.1 16 = .ok (.iload_n 1, 1) := by decide +kernel
theorem dNf_indexOf_17 : decode mNf_indexOf.2.1 17 = .ok (.if_icmp .ne 5, 3) := by decide +kernel
theorem dNf_indexOf_20 : decode mNf_indexOf.2.1 20 = .ok (.iload_n 2, 1) := by decide +kernel
theorem dNf_indexOf_21 : decode mNf_indexOf.2.1 21 = .ok (.ireturn, 1) := by decide +kernel
theorem dNf_indexOf_22 : decode mNf_indexOf.2.1 22 = .ok (.iinc 2 1, 3) := by decide +kernel
theorem dNf_indexOf_25 : decode mNf_indexOf.2.1 25 = .ok (.goto (-23), 3) := by decide +kernel
theorem dNf_indexOf_28 : decode mNf_indexOf.2.1 28 = .ok (.iconst (-1), 1) := by decide +kernel
theorem dNf_indexOf_29 : decode mNf_indexOf.2.1 29 = .ok (.ireturn, 1) := by decide +kernel
def lNf_indexOf_2 (a1 : Int32) (a2 : Int32) (t : Nat) : List Slot := [.val (.ref t), .val (.int a1), .val (.int a2)]
theorem bNf_indexOf_0 {t : Nat} {a1 : Int32} (hX : X.length = 13) (ht : kNf t) (k1 : QW d mNf_indexOf 2 (lNf_indexOf_2 a1 0 t) [] (hpo X mem sw o e) P) : QW d mNf_indexOf 0 (qen 3 [.ref t, .int a1]) [] (hpo X mem sw o e) P := by
  show QW d mNf_indexOf 0 [.val (.ref t), .val (.int a1), .unset] [] (hpo X mem sw o e) P
  refine QW.iconst (v := 0) dNf_indexOf_0 (by decide) ?_
  refine QW.istore_n (ls' := [.val (.ref t), .val (.int a1), .val (.int 0)]) dNf_indexOf_1 rfl rfl ?_
  exact k1
theorem bNf_indexOf_2 {t : Nat} {a1 : Int32} {a2 : Int32} (hX : X.length = 13) (ht : kNf t) (k1 : ((mem t 11) ≤ a2) → P (.inl (some (.int (-1))), (hpo X mem sw o e))) (h2 : (¬ (mem t 11) ≤ a2) → inx a2 15) (k3 : (¬ (mem t 11) ≤ a2) → (¬ (mem (t + 7) (Int32.toNatClampNeg a2)) = a1) → QW d mNf_indexOf 2 (lNf_indexOf_2 a1 (a2 + 1) t) [] (hpo X mem sw o e) P) (k4 : (¬ (mem t 11) ≤ a2) → ((mem (t + 7) (Int32.toNatClampNeg a2)) = a1) → P (.inl (some (.int a2)), (hpo X mem sw o e))) : QW d mNf_indexOf 2 (lNf_indexOf_2 a1 a2 t) [] (hpo X mem sw o e) P := by
  show QW d mNf_indexOf 2 [.val (.ref t), .val (.int a1), .val (.int a2)] [] (hpo X mem sw o e) P
  refine QW.iload_n dNf_indexOf_2 rfl rfl ?_
  refine QW.aload_n dNf_indexOf_3 rfl rfl ?_
  refine MW.geti hX dNf_indexOf_4 fNf_72 (kNf_0 ht) rfl ?_
  refine QW.icmp_ge (tgt := 28) dNf_indexOf_7 (by decide) (fun z0 => ?_) (fun z0 => ?_)
  · refine QW.iconst (v := (-1)) dNf_indexOf_28 (by decide) ?_
    exact QW.iret dNf_indexOf_29 rfl rfl (k1 z0)
  · refine QW.aload_n dNf_indexOf_10 rfl rfl ?_
    refine MW.getr (r' := (t + 7)) hX dNf_indexOf_11 fNf_30 (kNf_0 ht) rfl (kNf_s7 ht _) ?_
    refine QW.iload_n dNf_indexOf_14 rfl rfl ?_
    refine MW.iald hX dNf_indexOf_15 (kNf_7 ht) (h2 z0).1 (rep_get (h2 z0).2) ?_
    refine QW.iload_n dNf_indexOf_16 rfl rfl ?_
    refine QW.icmp_ne (tgt := 22) dNf_indexOf_17 (by decide) (fun z1 => ?_) (fun z1 => ?_)
    · refine MW.iinc (c := 1) (ls' := [.val (.ref t), .val (.int a1), .val (.int (a2 + 1))]) dNf_indexOf_22 (by decide) rfl rfl ?_
      refine QW.goto (tgt := 2) dNf_indexOf_25 (by decide) ?_
      exact (k3 z0 z1)
    · refine QW.iload_n dNf_indexOf_20 rfl rfl ?_
      exact QW.iret dNf_indexOf_21 rfl rfl (k4 z0 z1)
theorem dNf_classOfSlot_0 : decode mNf_classOfSlot.2.1 0 = .ok (.aload_n 1, 1) := by decide +kernel
theorem dNf_classOfSlot_1 : decode mNf_classOfSlot.2.1 1 = .ok (.getfield 80, 3) := by decide +kernel
theorem dNf_classOfSlot_4 : decode mNf_classOfSlot.2.1 4 = .ok (.iload_n 2, 1) := by decide +kernel
theorem dNf_classOfSlot_5 : decode mNf_classOfSlot.2.1 5 = .ok (.iaload, 1) := by decide +kernel
theorem dNf_classOfSlot_6 : decode mNf_classOfSlot.2.1 6 = .ok (.istore_n 3, 1) := by decide +kernel
theorem dNf_classOfSlot_7 : decode mNf_classOfSlot.2.1 7 = .ok (.aload_n 1, 1) := by decide +kernel
theorem dNf_classOfSlot_8 : decode mNf_classOfSlot.2.1 8 = .ok (.getfield 83, 3) := by decide +kernel
theorem dNf_classOfSlot_11 : decode mNf_classOfSlot.2.1 11 = .ok (.iload_n 2, 1) := by decide +kernel
theorem dNf_classOfSlot_12 : decode mNf_classOfSlot.2.1 12 = .ok (.iaload, 1) := by decide +kernel
theorem dNf_classOfSlot_13 : decode mNf_classOfSlot.2.1 13 = .ok (.istore 4, 2) := by decide +kernel
theorem dNf_classOfSlot_15 : decode mNf_classOfSlot.2.1 15 = .ok (.aload_n 0, 1) := by decide +kernel
theorem dNf_classOfSlot_16 : decode mNf_classOfSlot.2.1 16 = .ok (.getfield 33, 3) := by decide +kernel
theorem dNf_classOfSlot_19 : decode mNf_classOfSlot.2.1 19 = .ok (.iload_n 3, 1) := by decide +kernel
theorem dNf_classOfSlot_20 : decode mNf_classOfSlot.2.1 20 = .ok (.ifCond .ge 15, 3) := by decide +kernel
theorem dNf_classOfSlot_23 : decode mNf_classOfSlot.2.1 23 = .ok (.bipush 12, 2) := by decide +kernel
theorem dNf_classOfSlot_25 : decode mNf_classOfSlot.2.1 25 = .ok (.aload_n 0, 1) := by decide +kernel
theorem dNf_classOfSlot_26 : decode mNf_classOfSlot.2.1 26 = .ok (.iload 4, 2) := by decide +kernel
theorem dNf_classOfSlot_28 : decode mNf_classOfSlot.2.1 28 = .ok (.invokevirtual 86, 3) := by decide +kernel
theorem dNf_classOfSlot_31 : decode mNf_classOfSlot.2.1 31 = .ok (.iadd, 1) := by decide +kernel
theorem dNf_classOfSlot_32 : decode mNf_classOfSlot.2.1 32 = .ok (.goto 9, 3) := by decide +kernel
theorem dNf_classOfSlot_35 : decode mNf_classOfSlot.2.1 35 = .ok (.iload_n 3, 1) := by decide +kernel
theorem dNf_classOfSlot_36 : decode mNf_classOfSlot.2.1 36 = .ok (.iconst 3, 1) := by decide +kernel
theorem dNf_classOfSlot_37 : decode mNf_classOfSlot.2.1 37 = .ok (.imul, 1) := by decide +kernel
theorem dNf_classOfSlot_38 : decode mNf_classOfSlot.2.1 38 = .ok (.iload 4, 2) := by decide +kernel
theorem dNf_classOfSlot_40 : decode mNf_classOfSlot.2.1 40 = .ok (.iadd, 1) := by decide +kernel
theorem dNf_classOfSlot_41 : decode mNf_classOfSlot.2.1 41 = .ok (.iaload, 1) := by decide +kernel
theorem dNf_classOfSlot_42 : decode mNf_classOfSlot.2.1 42 = .ok (.ireturn, 1) := by decide +kernel
def lNf_classOfSlot_31 (a2 : Int32) (a3 : Int32) (a4 : Int32) (t : Nat) (r1 : Nat) : List Slot := [.val (.ref t), .val (.ref r1), .val (.int a2), .val (.int a3), .val (.int a4)]
def lNf_classOfSlot_41 (a2 : Int32) (a3 : Int32) (a4 : Int32) (t : Nat) (r1 : Nat) : List Slot := [.val (.ref t), .val (.ref r1), .val (.int a2), .val (.int a3), .val (.int a4)]
theorem bNf_classOfSlot_0 {t : Nat} {r1 : Nat} {a2 : Int32} (hX : X.length = 13) (ht : kNf t) (hr1 : kBl r1) (h1 : inx a2 15) (h2 : inx a2 15) (k3 : (0 ≤ (mem (r1 + 5) (Int32.toNatClampNeg a2))) → QW (d + 1) mNf_classOfSlot 41 (lNf_classOfSlot_41 a2 (mem (r1 + 5) (Int32.toNatClampNeg a2)) (mem (r1 + 6) (Int32.toNatClampNeg a2)) t r1) [.int (((mem (r1 + 5) (Int32.toNatClampNeg a2)) * 3) + (mem (r1 + 6) (Int32.toNatClampNeg a2))), .ref (t + 8)] (hpo X mem sw o e) P) (k4 : (¬ 0 ≤ (mem (r1 + 5) (Int32.toNatClampNeg a2))) → QW d mNf_indexOf 0 (qen 3 [.ref t, .int (mem (r1 + 6) (Int32.toNatClampNeg a2))]) [] (hpo X mem sw o e) (qcl d mNf_classOfSlot 28 31 (lNf_classOfSlot_31 a2 (mem (r1 + 5) (Int32.toNatClampNeg a2)) (mem (r1 + 6) (Int32.toNatClampNeg a2)) t r1) [.int 12, .ref (t + 8)] P)) : QW (d + 1) mNf_classOfSlot 0 (qen 5 [.ref t, .ref r1, .int a2]) [] (hpo X mem sw o e) P := by
  show QW (d + 1) mNf_classOfSlot 0 [.val (.ref t), .val (.ref r1), .val (.int a2), .unset, .unset] [] (hpo X mem sw o e) P
  refine QW.aload_n dNf_classOfSlot_0 rfl rfl ?_
  refine MW.getr (r' := (r1 + 5)) hX dNf_classOfSlot_1 fNf_80 (kBl_0 hr1) rfl (kBl_s5 hr1 _) ?_
  refine QW.iload_n dNf_classOfSlot_4 rfl rfl ?_
  refine MW.iald hX dNf_classOfSlot_5 (kBl_5 hr1) h1.1 (rep_get h1.2) ?_
  refine QW.istore_n (ls' := [.val (.ref t), .val (.ref r1), .val (.int a2), .val (.int (mem (r1 + 5) (Int32.toNatClampNeg a2))), .unset]) dNf_classOfSlot_6 rfl rfl ?_
  refine QW.aload_n dNf_classOfSlot_7 rfl rfl ?_
  refine MW.getr (r' := (r1 + 6)) hX dNf_classOfSlot_8 fNf_83 (kBl_0 hr1) rfl (kBl_s6 hr1 _) ?_
  refine QW.iload_n dNf_classOfSlot_11 rfl rfl ?_
  refine MW.iald hX dNf_classOfSlot_12 (kBl_6 hr1) h2.1 (rep_get h2.2) ?_
  refine QW.istore (ls' := [.val (.ref t), .val (.ref r1), .val (.int a2), .val (.int (mem (r1 + 5) (Int32.toNatClampNeg a2))), .val (.int (mem (r1 + 6) (Int32.toNatClampNeg a2)))]) dNf_classOfSlot_13 rfl ?_
  refine QW.aload_n dNf_classOfSlot_15 rfl rfl ?_
  refine MW.getr (r' := (t + 8)) hX dNf_classOfSlot_16 fNf_33 (kNf_0 ht) rfl (kNf_s8 ht _) ?_
  refine QW.iload_n dNf_classOfSlot_19 rfl rfl ?_
  refine QW.if_ge (tgt := 35) dNf_classOfSlot_20 (by decide) (fun z0 => ?_) (fun z0 => ?_)
  · refine QW.iload_n dNf_classOfSlot_35 rfl rfl ?_
    refine QW.iconst (v := 3) dNf_classOfSlot_36 (by decide) ?_
    refine QW.imul dNf_classOfSlot_37 ?_
    refine QW.iload dNf_classOfSlot_38 rfl ?_
    refine QW.iadd dNf_classOfSlot_40 ?_
    exact (k3 z0)
  · refine QW.bipush (v := 12) dNf_classOfSlot_23 (by decide) ?_
    refine QW.aload_n dNf_classOfSlot_25 rfl rfl ?_
    refine QW.iload dNf_classOfSlot_26 rfl ?_
    exact MW.calV (as := [.int (mem (r1 + 6) (Int32.toNatClampNeg a2))]) (rest := [.int 12, .ref (t + 8)]) hX dNf_classOfSlot_28 eNf_indexOf lNf_86 iNf_indexOf vNf_indexOf rfl rfl (kNf_0 ht) rfl rfl rfl (Nat.le_of_ble_eq_true rfl) rfl (k4 z0)
theorem bNf_classOfSlot_31 {t : Nat} {r1 : Nat} {a2 : Int32} {a3 : Int32} {a4 : Int32} {s2 : Int32} {s1 : Int32} (hX : X.length = 13) (ht : kNf t) (hr1 : kBl r1) (k1 : QW d mNf_classOfSlot 41 (lNf_classOfSlot_41 a2 a3 a4 t r1) [.int (s1 + s2), .ref (t + 8)] (hpo X mem sw o e) P) : QW d mNf_classOfSlot 31 (lNf_classOfSlot_31 a2 a3 a4 t r1) [.int s2, .int s1, .ref (t + 8)] (hpo X mem sw o e) P := by
  show QW d mNf_classOfSlot 31 [.val (.ref t), .val (.ref r1), .val (.int a2), .val (.int a3), .val (.int a4)] [.int s2, .int s1, .ref (t + 8)] (hpo X mem sw o e) P
  refine QW.iadd dNf_classOfSlot_31 ?_
  refine QW.goto (tgt := 41) dNf_classOfSlot_32 (by decide) ?_
  exact k1
theorem bNf_classOfSlot_41 {t : Nat} {r1 : Nat} {a2 : Int32} {a3 : Int32} {a4 : Int32} {s1 : Int32} (hX : X.length = 13) (ht : kNf t) (hr1 : kBl r1) (h1 : inx s1 27) (k2 : P (.inl (some (.int (mem (t + 8) (Int32.toNatClampNeg s1)))), (hpo X mem sw o e))) : QW d mNf_classOfSlot 41 (lNf_classOfSlot_41 a2 a3 a4 t r1) [.int s1, .ref (t + 8)] (hpo X mem sw o e) P := by
  show QW d mNf_classOfSlot 41 [.val (.ref t), .val (.ref r1), .val (.int a2), .val (.int a3), .val (.int a4)] [.int s1, .ref (t + 8)] (hpo X mem sw o e) P
  refine MW.iald hX dNf_classOfSlot_41 (kNf_8 ht) h1.1 (rep_get h1.2) ?_
  exact QW.iret dNf_classOfSlot_42 rfl rfl k2
theorem dNf_merge_0 : decode mNf_merge.2.1 0 = .ok (.iload_n 1, 1) := by decide +kernel
theorem dNf_merge_1 : decode mNf_merge.2.1 1 = .ok (.iload_n 2, 1) := by decide +kernel
theorem dNf_merge_2 : decode mNf_merge.2.1 2 = .ok (.if_icmp .ne 5, 3) := by decide +kernel
theorem dNf_merge_5 : decode mNf_merge.2.1 5 = .ok (.iconst 0, 1) := by decide +kernel
theorem dNf_merge_6 : decode mNf_merge.2.1 6 = .ok (.ireturn, 1) := by decide +kernel
theorem dNf_merge_7 : decode mNf_merge.2.1 7 = .ok (.iconst 0, 1) := by decide +kernel
theorem dNf_merge_8 : decode mNf_merge.2.1 8 = .ok (.istore_n 3, 1) := by decide +kernel
theorem dNf_merge_9 : decode mNf_merge.2.1 9 = .ok (.iload_n 3, 1) := by decide +kernel
theorem dNf_merge_10 : decode mNf_merge.2.1 10 = .ok (.bipush 27, 2) := by decide +kernel
theorem dNf_merge_12 : decode mNf_merge.2.1 12 = .ok (.if_icmp .ge 26, 3) := by decide +kernel
theorem dNf_merge_15 : decode mNf_merge.2.1 15 = .ok (.aload_n 0, 1) := by decide +kernel
theorem dNf_merge_16 : decode mNf_merge.2.1 16 = .ok (.getfield 33, 3) := by decide +kernel
theorem dNf_merge_19 : decode mNf_merge.2.1 19 = .ok (.iload_n 3, 1) := by decide +kernel
theorem dNf_merge_20 : decode mNf_merge.2.1 20 = .ok (.iaload, 1) := by decide +kernel
theorem dNf_merge_21 : decode mNf_merge.2.1 21 = .ok (.iload_n 2, 1) := by decide +kernel
theorem dNf_merge_22 : decode mNf_merge.2.1 22 = .ok (.if_icmp .ne 10, 3) := by decide +kernel
theorem dNf_merge_25 : decode mNf_merge.2.1 25 = .ok (.aload_n 0, 1) := by decide +kernel
theorem dNf_merge_26 : decode mNf_merge.2.1 26 = .ok (.getfield 33, 3) := by decide +kernel
theorem dNf_merge_29 : decode mNf_merge.2.1 29 = .ok (.iload_n 3, 1) := by decide +kernel
theorem dNf_merge_30 : decode mNf_merge.2.1 30 = .ok (.iload_n 1, 1) := by decide +kernel
theorem dNf_merge_31 : decode mNf_merge.2.1 31 = .ok (.iastore, 1) := by decide +kernel
theorem dNf_merge_32 : decode mNf_merge.2.1 32 = .ok (.iinc 3 1, 3) := by decide +kernel
theorem dNf_merge_35 : decode mNf_merge.2.1 35 = .ok (.goto (-26), 3) := by decide +kernel
theorem dNf_merge_38 : decode mNf_merge.2.1 38 = .ok (.iconst 1, 1) := by decide +kernel
theorem dNf_merge_39 : decode mNf_merge.2.1 39 = .ok (.ireturn, 1) := by decide +kernel
def lNf_merge_9 (a1 : Int32) (a2 : Int32) (a3 : Int32) (t : Nat) : List Slot := [.val (.ref t), .val (.int a1), .val (.int a2), .val (.int a3)]
theorem bNf_merge_0 {t : Nat} {a1 : Int32} {a2 : Int32} (hX : X.length = 13) (ht : kNf t) (k1 : (¬ a1 = a2) → QW d mNf_merge 9 (lNf_merge_9 a1 a2 0 t) [] (hpo X mem sw o e) P) (k2 : (a1 = a2) → P (.inl (some (.int 0)), (hpo X mem sw o e))) : QW d mNf_merge 0 (qen 4 [.ref t, .int a1, .int a2]) [] (hpo X mem sw o e) P := by
  show QW d mNf_merge 0 [.val (.ref t), .val (.int a1), .val (.int a2), .unset] [] (hpo X mem sw o e) P
  refine QW.iload_n dNf_merge_0 rfl rfl ?_
  refine QW.iload_n dNf_merge_1 rfl rfl ?_
  refine QW.icmp_ne (tgt := 7) dNf_merge_2 (by decide) (fun z0 => ?_) (fun z0 => ?_)
  · refine QW.iconst (v := 0) dNf_merge_7 (by decide) ?_
    refine QW.istore_n (ls' := [.val (.ref t), .val (.int a1), .val (.int a2), .val (.int 0)]) dNf_merge_8 rfl rfl ?_
    exact (k1 z0)
  · refine QW.iconst (v := 0) dNf_merge_5 (by decide) ?_
    exact QW.iret dNf_merge_6 rfl rfl (k2 z0)
theorem bNf_merge_9 {t : Nat} {a1 : Int32} {a2 : Int32} {a3 : Int32} (hX : X.length = 13) (ht : kNf t) (k1 : (27 ≤ a3) → P (.inl (some (.int 1)), (hpo X mem sw o e))) (h2 : (¬ 27 ≤ a3) → inx a3 27) (k3 : (¬ 27 ≤ a3) → (¬ (mem (t + 8) (Int32.toNatClampNeg a3)) = a2) → QW d mNf_merge 9 (lNf_merge_9 a1 a2 (a3 + 1) t) [] (hpo X mem sw o e) P) (h4 : (¬ 27 ≤ a3) → ((mem (t + 8) (Int32.toNatClampNeg a3)) = a2) → inx a3 27) (k5 : (¬ 27 ≤ a3) → ((mem (t + 8) (Int32.toNatClampNeg a3)) = a2) → QW d mNf_merge 9 (lNf_merge_9 a1 a2 (a3 + 1) t) [] (hpo X (mup mem (t + 8) (Int32.toNatClampNeg a3) a1) sw o e) P) : QW d mNf_merge 9 (lNf_merge_9 a1 a2 a3 t) [] (hpo X mem sw o e) P := by
  show QW d mNf_merge 9 [.val (.ref t), .val (.int a1), .val (.int a2), .val (.int a3)] [] (hpo X mem sw o e) P
  refine QW.iload_n dNf_merge_9 rfl rfl ?_
  refine QW.bipush (v := 27) dNf_merge_10 (by decide) ?_
  refine QW.icmp_ge (tgt := 38) dNf_merge_12 (by decide) (fun z0 => ?_) (fun z0 => ?_)
  · refine QW.iconst (v := 1) dNf_merge_38 (by decide) ?_
    exact QW.iret dNf_merge_39 rfl rfl (k1 z0)
  · refine QW.aload_n dNf_merge_15 rfl rfl ?_
    refine MW.getr (r' := (t + 8)) hX dNf_merge_16 fNf_33 (kNf_0 ht) rfl (kNf_s8 ht _) ?_
    refine QW.iload_n dNf_merge_19 rfl rfl ?_
    refine MW.iald hX dNf_merge_20 (kNf_8 ht) (h2 z0).1 (rep_get (h2 z0).2) ?_
    refine QW.iload_n dNf_merge_21 rfl rfl ?_
    refine QW.icmp_ne (tgt := 32) dNf_merge_22 (by decide) (fun z1 => ?_) (fun z1 => ?_)
    · refine MW.iinc (c := 1) (ls' := [.val (.ref t), .val (.int a1), .val (.int a2), .val (.int (a3 + 1))]) dNf_merge_32 (by decide) rfl rfl ?_
      refine QW.goto (tgt := 9) dNf_merge_35 (by decide) ?_
      exact (k3 z0 z1)
    · refine QW.aload_n dNf_merge_25 rfl rfl ?_
      refine MW.getr (r' := (t + 8)) hX dNf_merge_26 fNf_33 (kNf_0 ht) rfl (kNf_s8 ht _) ?_
      refine QW.iload_n dNf_merge_29 rfl rfl ?_
      refine QW.iload_n dNf_merge_30 rfl rfl ?_
      refine MW.iast hX dNf_merge_31 (kNf_8 ht) (h4 z0 z1).1 (rep_get (h4 z0 z1).2) ?_
      refine MW.iinc (c := 1) (ls' := [.val (.ref t), .val (.int a1), .val (.int a2), .val (.int (a3 + 1))]) dNf_merge_32 (by decide) rfl rfl ?_
      refine QW.goto (tgt := 9) dNf_merge_35 (by decide) ?_
      exact (k5 z0 z1)
theorem dNf_joinEqualSides_0 : decode mNf_joinEqualSides.2.1 0 = .ok (.iconst 0, 1) := by decide +kernel
theorem dNf_joinEqualSides_1 : decode mNf_joinEqualSides.2.1 1 = .ok (.istore_n 2, 1) := by decide +kernel
theorem dNf_joinEqualSides_2 : decode mNf_joinEqualSides.2.1 2 = .ok (.iload_n 2, 1) := by decide +kernel
theorem dNf_joinEqualSides_3 : decode mNf_joinEqualSides.2.1 3 = .ok (.aload_n 1, 1) := by decide +kernel
theorem dNf_joinEqualSides_4 : decode mNf_joinEqualSides.2.1 4 = .ok (.getfield 90, 3) := by decide +kernel
theorem dNf_joinEqualSides_7 : decode mNf_joinEqualSides.2.1 7 = .ok (.if_icmp .ge 41, 3) := by decide +kernel
theorem dNf_joinEqualSides_10 : decode mNf_joinEqualSides.2.1 10 = .ok (.aload_n 1, 1) := by decide +kernel
theorem dNf_joinEqualSides_11 : decode mNf_joinEqualSides.2.1 11 = .ok (.getfield 93, 3) := by decide +kernel
theorem dNf_joinEqualSides_14 : decode mNf_joinEqualSides.2.1 14 = .ok (.iload_n 2, 1) := by decide +kernel
theorem dNf_joinEqualSides_15 : decode mNf_joinEqualSides.2.1 15 = .ok (.baload, 1) := by decide +kernel
theorem dNf_joinEqualSides_16 : decode mNf_joinEqualSides.2.1 16 = .ok (.ifCond .ne 26, 3) := by decide +kernel
theorem dNf_joinEqualSides_19 : decode mNf_joinEqualSides.2.1 19 = .ok (.aload_n 0, 1) := by decide +kernel
theorem dNf_joinEqualSides_20 : decode mNf_joinEqualSides.2.1 20 = .ok (.aload_n 0, 1) := by decide +kernel
theorem dNf_joinEqualSides_21 : decode mNf_joinEqualSides.2.1 21 = .ok (.aload_n 1, 1) := by decide +kernel
theorem dNf_joinEqualSides_22 : decode mNf_joinEqualSides.2.1 22 = .ok (.iload_n 2, 1) := by decide +kernel
theorem dNf_joinEqualSides_23 : decode mNf_joinEqualSides.2.1 23 = .ok (.invokestatic 97, 3) := by decide +kernel
theorem dNf_joinEqualSides_26 : decode mNf_joinEqualSides.2.1 26 = .ok (.invokevirtual 100, 3) := by decide +kernel
theorem dNf_joinEqualSides_29 : decode mNf_joinEqualSides.2.1 29 = .ok (.aload_n 0, 1) := by decide +kernel
theorem dNf_joinEqualSides_30 : decode mNf_joinEqualSides.2.1 30 = .ok (.aload_n 1, 1) := by decide +kernel
theorem dNf_joinEqualSides_31 : decode mNf_joinEqualSides.2.1 31 = .ok (.iload_n 2, 1) := by decide +kernel
theorem dNf_joinEqualSides_32 : decode mNf_joinEqualSides.2.1 32 = .ok (.invokestatic 104, 3) := by decide +kernel
theorem dNf_joinEqualSides_35 : decode mNf_joinEqualSides.2.1 35 = .ok (.invokevirtual 100, 3) := by decide +kernel
theorem dNf_joinEqualSides_38 : decode mNf_joinEqualSides.2.1 38 = .ok (.invokevirtual 107, 3) := by decide +kernel
theorem dNf_joinEqualSides_41 : decode mNf_joinEqualSides.2.1 41 = .ok (.pop, 1) := by decide +kernel
theorem dNf_joinEqualSides_42 : decode mNf_joinEqualSides.2.1 42 = .ok (.iinc 2 1, 3) := by decide +kernel
theorem dNf_joinEqualSides_45 : decode mNf_joinEqualSides.2.1 45 = .ok (.goto (-43), 3) := by decide +kernel
theorem dNf_joinEqualSides_48 : decode mNf_joinEqualSides.2.1 48 = .ok (.return_, 1) := by decide +kernel
def lNf_joinEqualSides_2 (a2 : Int32) (t : Nat) (r1 : Nat) : List Slot := [.val (.ref t), .val (.ref r1), .val (.int a2)]
def lNf_joinEqualSides_26 (a2 : Int32) (t : Nat) (r1 : Nat) : List Slot := [.val (.ref t), .val (.ref r1), .val (.int a2)]
def lNf_joinEqualSides_29 (a2 : Int32) (t : Nat) (r1 : Nat) : List Slot := [.val (.ref t), .val (.ref r1), .val (.int a2)]
def lNf_joinEqualSides_35 (a2 : Int32) (t : Nat) (r1 : Nat) : List Slot := [.val (.ref t), .val (.ref r1), .val (.int a2)]
def lNf_joinEqualSides_38 (a2 : Int32) (t : Nat) (r1 : Nat) : List Slot := [.val (.ref t), .val (.ref r1), .val (.int a2)]
def lNf_joinEqualSides_41 (a2 : Int32) (t : Nat) (r1 : Nat) : List Slot := [.val (.ref t), .val (.ref r1), .val (.int a2)]
theorem bNf_joinEqualSides_0 {t : Nat} {r1 : Nat} (hX : X.length = 13) (ht : kNf t) (hr1 : kBl r1) (k1 : QW d mNf_joinEqualSides 2 (lNf_joinEqualSides_2 0 t r1) [] (hpo X mem sw o e) P) : QW d mNf_joinEqualSides 0 (qen 3 [.ref t, .ref r1]) [] (hpo X mem sw o e) P := by
  show QW d mNf_joinEqualSides 0 [.val (.ref t), .val (.ref r1), .unset] [] (hpo X mem sw o e) P
  refine QW.iconst (v := 0) dNf_joinEqualSides_0 (by decide) ?_
  refine QW.istore_n (ls' := [.val (.ref t), .val (.ref r1), .val (.int 0)]) dNf_joinEqualSides_1 rfl rfl ?_
  exact k1
theorem bNf_joinEqualSides_2 {t : Nat} {r1 : Nat} {a2 : Int32} (hX : X.length = 13) (ht : kNf t) (hr1 : kBl r1) (k1 : ((mem r1 3) ≤ a2) → P (.inl none, (hpo X mem sw o e))) (h2 : (¬ (mem r1 3) ≤ a2) → inx a2 6) (k3 : (¬ (mem r1 3) ≤ a2) → (¬ (mem (r1 + 3) (Int32.toNatClampNeg a2)) = 0) → QW (d + 1) mNf_joinEqualSides 2 (lNf_joinEqualSides_2 (a2 + 1) t r1) [] (hpo X mem sw o e) P) (k4 : (¬ (mem r1 3) ≤ a2) → ((mem (r1 + 3) (Int32.toNatClampNeg a2)) = 0) → QW d mBl_lowSlot 0 (qen 1 [.int a2]) [] (hpo X mem sw o e) (qcl d mNf_joinEqualSides 23 26 (lNf_joinEqualSides_26 a2 t r1) [.ref r1, .ref t, .ref t] P)) : QW (d + 1) mNf_joinEqualSides 2 (lNf_joinEqualSides_2 a2 t r1) [] (hpo X mem sw o e) P := by
  show QW (d + 1) mNf_joinEqualSides 2 [.val (.ref t), .val (.ref r1), .val (.int a2)] [] (hpo X mem sw o e) P
  refine QW.iload_n dNf_joinEqualSides_2 rfl rfl ?_
  refine QW.aload_n dNf_joinEqualSides_3 rfl rfl ?_
  refine MW.geti hX dNf_joinEqualSides_4 fNf_90 (kBl_0 hr1) rfl ?_
  refine QW.icmp_ge (tgt := 48) dNf_joinEqualSides_7 (by decide) (fun z0 => ?_) (fun z0 => ?_)
  · exact QW.vret dNf_joinEqualSides_48 rfl (k1 z0)
  · refine QW.aload_n dNf_joinEqualSides_10 rfl rfl ?_
    refine MW.getr (r' := (r1 + 3)) hX dNf_joinEqualSides_11 fNf_93 (kBl_0 hr1) rfl (kBl_s3 hr1 _) ?_
    refine QW.iload_n dNf_joinEqualSides_14 rfl rfl ?_
    refine MW.zald hX dNf_joinEqualSides_15 (kBl_3 hr1) (h2 z0).1 (rep_get (h2 z0).2) ?_
    refine QW.if_ne (tgt := 42) dNf_joinEqualSides_16 (by decide) (fun z1 => ?_) (fun z1 => ?_)
    · refine MW.iinc (c := 1) (ls' := [.val (.ref t), .val (.ref r1), .val (.int (a2 + 1))]) dNf_joinEqualSides_42 (by decide) rfl rfl ?_
      refine QW.goto (tgt := 2) dNf_joinEqualSides_45 (by decide) ?_
      exact (k3 z0 z1)
    · refine QW.aload_n dNf_joinEqualSides_19 rfl rfl ?_
      refine QW.aload_n dNf_joinEqualSides_20 rfl rfl ?_
      refine QW.aload_n dNf_joinEqualSides_21 rfl rfl ?_
      refine QW.iload_n dNf_joinEqualSides_22 rfl rfl ?_
      exact MW.calS (as := [.int a2]) (rest := [.ref r1, .ref t, .ref t]) dNf_joinEqualSides_23 eBl_lowSlot lNf_97 sBl_lowSlot rfl rfl rfl (Nat.le_of_ble_eq_true rfl) rfl (k4 z0 z1)
theorem bNf_joinEqualSides_26 {t : Nat} {r1 : Nat} {a2 : Int32} {s3 : Int32} (hX : X.length = 13) (ht : kNf t) (hr1 : kBl r1) (k1 : QW d mNf_classOfSlot 0 (qen 5 [.ref t, .ref r1, .int s3]) [] (hpo X mem sw o e) (qcl d mNf_joinEqualSides 26 29 (lNf_joinEqualSides_29 a2 t r1) [.ref t] P)) : QW (d + 1) mNf_joinEqualSides 26 (lNf_joinEqualSides_26 a2 t r1) [.int s3, .ref r1, .ref t, .ref t] (hpo X mem sw o e) P := by
  show QW (d + 1) mNf_joinEqualSides 26 [.val (.ref t), .val (.ref r1), .val (.int a2)] [.int s3, .ref r1, .ref t, .ref t] (hpo X mem sw o e) P
  exact MW.calV (as := [.ref r1, .int s3]) (rest := [.ref t]) hX dNf_joinEqualSides_26 eNf_classOfSlot lNf_100 iNf_classOfSlot vNf_classOfSlot rfl rfl (kNf_0 ht) rfl rfl rfl (Nat.le_of_ble_eq_true rfl) rfl k1
theorem bNf_joinEqualSides_29 {t : Nat} {r1 : Nat} {a2 : Int32} {s1 : Int32} (hX : X.length = 13) (ht : kNf t) (hr1 : kBl r1) (k1 : QW d mBl_highSlot 0 (qen 1 [.int a2]) [] (hpo X mem sw o e) (qcl d mNf_joinEqualSides 32 35 (lNf_joinEqualSides_35 a2 t r1) [.ref r1, .ref t, .int s1, .ref t] P)) : QW (d + 1) mNf_joinEqualSides 29 (lNf_joinEqualSides_29 a2 t r1) [.int s1, .ref t] (hpo X mem sw o e) P := by
  show QW (d + 1) mNf_joinEqualSides 29 [.val (.ref t), .val (.ref r1), .val (.int a2)] [.int s1, .ref t] (hpo X mem sw o e) P
  refine QW.aload_n dNf_joinEqualSides_29 rfl rfl ?_
  refine QW.aload_n dNf_joinEqualSides_30 rfl rfl ?_
  refine QW.iload_n dNf_joinEqualSides_31 rfl rfl ?_
  exact MW.calS (as := [.int a2]) (rest := [.ref r1, .ref t, .int s1, .ref t]) dNf_joinEqualSides_32 eBl_highSlot lNf_104 sBl_highSlot rfl rfl rfl (Nat.le_of_ble_eq_true rfl) rfl k1
theorem bNf_joinEqualSides_35 {t : Nat} {r1 : Nat} {a2 : Int32} {s4 : Int32} {s1 : Int32} (hX : X.length = 13) (ht : kNf t) (hr1 : kBl r1) (k1 : QW d mNf_classOfSlot 0 (qen 5 [.ref t, .ref r1, .int s4]) [] (hpo X mem sw o e) (qcl d mNf_joinEqualSides 35 38 (lNf_joinEqualSides_38 a2 t r1) [.int s1, .ref t] P)) : QW (d + 1) mNf_joinEqualSides 35 (lNf_joinEqualSides_35 a2 t r1) [.int s4, .ref r1, .ref t, .int s1, .ref t] (hpo X mem sw o e) P := by
  show QW (d + 1) mNf_joinEqualSides 35 [.val (.ref t), .val (.ref r1), .val (.int a2)] [.int s4, .ref r1, .ref t, .int s1, .ref t] (hpo X mem sw o e) P
  exact MW.calV (as := [.ref r1, .int s4]) (rest := [.int s1, .ref t]) hX dNf_joinEqualSides_35 eNf_classOfSlot lNf_100 iNf_classOfSlot vNf_classOfSlot rfl rfl (kNf_0 ht) rfl rfl rfl (Nat.le_of_ble_eq_true rfl) rfl k1
theorem bNf_joinEqualSides_38 {t : Nat} {r1 : Nat} {a2 : Int32} {s2 : Int32} {s1 : Int32} (hX : X.length = 13) (ht : kNf t) (hr1 : kBl r1) (k1 : QW d mNf_merge 0 (qen 4 [.ref t, .int s1, .int s2]) [] (hpo X mem sw o e) (qcl d mNf_joinEqualSides 38 41 (lNf_joinEqualSides_41 a2 t r1) [] P)) : QW (d + 1) mNf_joinEqualSides 38 (lNf_joinEqualSides_38 a2 t r1) [.int s2, .int s1, .ref t] (hpo X mem sw o e) P := by
  show QW (d + 1) mNf_joinEqualSides 38 [.val (.ref t), .val (.ref r1), .val (.int a2)] [.int s2, .int s1, .ref t] (hpo X mem sw o e) P
  exact MW.calV (as := [.int s1, .int s2]) (rest := []) hX dNf_joinEqualSides_38 eNf_merge lNf_107 iNf_merge vNf_merge rfl rfl (kNf_0 ht) rfl rfl rfl (Nat.le_of_ble_eq_true rfl) rfl k1
theorem bNf_joinEqualSides_41 {t : Nat} {r1 : Nat} {a2 : Int32} {s0 : Int32} (hX : X.length = 13) (ht : kNf t) (hr1 : kBl r1) (k1 : QW d mNf_joinEqualSides 2 (lNf_joinEqualSides_2 (a2 + 1) t r1) [] (hpo X mem sw o e) P) : QW d mNf_joinEqualSides 41 (lNf_joinEqualSides_41 a2 t r1) [.int s0] (hpo X mem sw o e) P := by
  show QW d mNf_joinEqualSides 41 [.val (.ref t), .val (.ref r1), .val (.int a2)] [.int s0] (hpo X mem sw o e) P
  refine QW.pop dNf_joinEqualSides_41 rfl ?_
  refine MW.iinc (c := 1) (ls' := [.val (.ref t), .val (.ref r1), .val (.int (a2 + 1))]) dNf_joinEqualSides_42 (by decide) rfl rfl ?_
  refine QW.goto (tgt := 2) dNf_joinEqualSides_45 (by decide) ?_
  exact k1
theorem dNf_joinOnes_0 : decode mNf_joinOnes.2.1 0 = .ok (.iconst 1, 1) := by decide +kernel
theorem dNf_joinOnes_1 : decode mNf_joinOnes.2.1 1 = .ok (.istore_n 3, 1) := by decide +kernel
theorem dNf_joinOnes_2 : decode mNf_joinOnes.2.1 2 = .ok (.iconst 0, 1) := by decide +kernel
theorem dNf_joinOnes_3 : decode mNf_joinOnes.2.1 3 = .ok (.istore 4, 2) := by decide +kernel
theorem dNf_joinOnes_5 : decode mNf_joinOnes.2.1 5 = .ok (.iload 4, 2) := by decide +kernel
theorem dNf_joinOnes_7 : decode mNf_joinOnes.2.1 7 = .ok (.bipush 12, 2) := by decide +kernel
theorem dNf_joinOnes_9 : decode mNf_joinOnes.2.1 9 = .ok (.if_icmp .ge 80, 3) := by decide +kernel
theorem dNf_joinOnes_12 : decode mNf_joinOnes.2.1 12 = .ok (.iload_n 3, 1) := by decide +kernel
theorem dNf_joinOnes_13 : decode mNf_joinOnes.2.1 13 = .ok (.ifCond .eq 76, 3) := by decide +kernel
theorem dNf_joinOnes_16 : decode mNf_joinOnes.2.1 16 = .ok (.iconst 0, 1) := by decide +kernel
theorem dNf_joinOnes_17 : decode mNf_joinOnes.2.1 17 = .ok (.istore_n 3, 1) := by decide +kernel
theorem dNf_joinOnes_18 : decode mNf_joinOnes.2.1 18 = .ok (.iconst 0, 1) := by decide +kernel
theorem dNf_joinOnes_19 : decode mNf_joinOnes.2.1 19 = .ok (.istore 5, 2) := by decide +kernel
theorem dNf_joinOnes_21 : decode mNf_joinOnes.2.1 21 = .ok (.iload 5, 2) := by decide +kernel
theorem dNf_joinOnes_23 : decode mNf_joinOnes.2.1 23 = .ok (.aload_n 1, 1) := by decide +kernel
theorem dNf_joinOnes_24 : decode mNf_joinOnes.2.1 24 = .ok (.getfield 111, 3) := by decide +kernel
theorem dNf_joinOnes_27 : decode mNf_joinOnes.2.1 27 = .ok (.if_icmp .ge 56, 3) := by decide +kernel
theorem dNf_joinOnes_30 : decode mNf_joinOnes.2.1 30 = .ok (.iload 5, 2) := by decide +kernel
theorem dNf_joinOnes_32 : decode mNf_joinOnes.2.1 32 = .ok (.iconst 1, 1) := by decide +kernel
theorem dNf_joinOnes_33 : decode mNf_joinOnes.2.1 33 = .ok (.iadd, 1) := by decide +kernel
theorem dNf_joinOnes_34 : decode mNf_joinOnes.2.1 34 = .ok (.istore 6, 2) := by decide +kernel
theorem dNf_joinOnes_36 : decode mNf_joinOnes.2.1 36 = .ok (.iload 6, 2) := by decide +kernel
theorem dNf_joinOnes_38 : decode mNf_joinOnes.2.1 38 = .ok (.aload_n 1, 1) := by decide +kernel
theorem dNf_joinOnes_39 : decode mNf_joinOnes.2.1 39 = .ok (.getfield 111, 3) := by decide +kernel
theorem dNf_joinOnes_42 : decode mNf_joinOnes.2.1 42 = .ok (.if_icmp .ge 35, 3) := by decide +kernel
theorem dNf_joinOnes_45 : decode mNf_joinOnes.2.1 45 = .ok (.aload_n 0, 1) := by decide +kernel
theorem dNf_joinOnes_46 : decode mNf_joinOnes.2.1 46 = .ok (.iload 5, 2) := by decide +kernel
theorem dNf_joinOnes_48 : decode mNf_joinOnes.2.1 48 = .ok (.iload 6, 2) := by decide +kernel
theorem dNf_joinOnes_50 : decode mNf_joinOnes.2.1 50 = .ok (.aload_n 1, 1) := by decide +kernel
theorem dNf_joinOnes_51 : decode mNf_joinOnes.2.1 51 = .ok (.aload_n 2, 1) := by decide +kernel
theorem dNf_joinOnes_52 : decode mNf_joinOnes.2.1 52 = .ok (.invokevirtual 114, 3) := by decide +kernel
theorem dNf_joinOnes_55 : decode mNf_joinOnes.2.1 55 = .ok (.ifCond .eq 16, 3) := by decide +kernel
theorem dNf_joinOnes_58 : decode mNf_joinOnes.2.1 58 = .ok (.aload_n 0, 1) := by decide +kernel
theorem dNf_joinOnes_59 : decode mNf_joinOnes.2.1 59 = .ok (.iload 5, 2) := by decide +kernel
theorem dNf_joinOnes_61 : decode mNf_joinOnes.2.1 61 = .ok (.iload 6, 2) := by decide +kernel
theorem dNf_joinOnes_63 : decode mNf_joinOnes.2.1 63 = .ok (.invokevirtual 118, 3) := by decide +kernel
theorem dNf_joinOnes_66 : decode mNf_joinOnes.2.1 66 = .ok (.ifCond .eq 5, 3) := by decide +kernel
theorem dNf_joinOnes_69 : decode mNf_joinOnes.2.1 69 = .ok (.iconst 1, 1) := by decide +kernel
theorem dNf_joinOnes_70 : decode mNf_joinOnes.2.1 70 = .ok (.istore_n 3, 1) := by decide +kernel
theorem dNf_joinOnes_71 : decode mNf_joinOnes.2.1 71 = .ok (.iinc 6 1, 3) := by decide +kernel
theorem dNf_joinOnes_74 : decode mNf_joinOnes.2.1 74 = .ok (.goto (-38), 3) := by decide +kernel
theorem dNf_joinOnes_77 : decode mNf_joinOnes.2.1 77 = .ok (.iinc 5 1, 3) := by decide +kernel
theorem dNf_joinOnes_80 : decode mNf_joinOnes.2.1 80 = .ok (.goto (-59), 3) := by decide +kernel
theorem dNf_joinOnes_83 : decode mNf_joinOnes.2.1 83 = .ok (.iinc 4 1, 3) := by decide +kernel
theorem dNf_joinOnes_86 : decode mNf_joinOnes.2.1 86 = .ok (.goto (-81), 3) := by decide +kernel
theorem dNf_joinOnes_89 : decode mNf_joinOnes.2.1 89 = .ok (.return_, 1) := by decide +kernel
def lNf_joinOnes_5 (a3 : Int32) (a4 : Int32) (w5 : Slot) (w6 : Slot) (t : Nat) (r1 : Nat) : List Slot := [.val (.ref t), .val (.ref r1), .val (.ref 14), .val (.int a3), .val (.int a4), w5, w6]
def lNf_joinOnes_21 (a3 : Int32) (a4 : Int32) (a5 : Int32) (w6 : Slot) (t : Nat) (r1 : Nat) : List Slot := [.val (.ref t), .val (.ref r1), .val (.ref 14), .val (.int a3), .val (.int a4), .val (.int a5), w6]
def lNf_joinOnes_36 (a3 : Int32) (a4 : Int32) (a5 : Int32) (a6 : Int32) (t : Nat) (r1 : Nat) : List Slot := [.val (.ref t), .val (.ref r1), .val (.ref 14), .val (.int a3), .val (.int a4), .val (.int a5), .val (.int a6)]
def lNf_joinOnes_55 (a3 : Int32) (a4 : Int32) (a5 : Int32) (a6 : Int32) (t : Nat) (r1 : Nat) : List Slot := [.val (.ref t), .val (.ref r1), .val (.ref 14), .val (.int a3), .val (.int a4), .val (.int a5), .val (.int a6)]
def lNf_joinOnes_66 (a3 : Int32) (a4 : Int32) (a5 : Int32) (a6 : Int32) (t : Nat) (r1 : Nat) : List Slot := [.val (.ref t), .val (.ref r1), .val (.ref 14), .val (.int a3), .val (.int a4), .val (.int a5), .val (.int a6)]
theorem bNf_joinOnes_0 {t : Nat} {r1 : Nat} (hX : X.length = 13) (ht : kNf t) (hr1 : kBl r1) (k1 : QW d mNf_joinOnes 5 (lNf_joinOnes_5 1 0 .unset .unset t r1) [] (hpo X mem sw o e) P) : QW d mNf_joinOnes 0 (qen 7 [.ref t, .ref r1, .ref 14]) [] (hpo X mem sw o e) P := by
  show QW d mNf_joinOnes 0 [.val (.ref t), .val (.ref r1), .val (.ref 14), .unset, .unset, .unset, .unset] [] (hpo X mem sw o e) P
  refine QW.iconst (v := 1) dNf_joinOnes_0 (by decide) ?_
  refine QW.istore_n (ls' := [.val (.ref t), .val (.ref r1), .val (.ref 14), .val (.int 1), .unset, .unset, .unset]) dNf_joinOnes_1 rfl rfl ?_
  refine QW.iconst (v := 0) dNf_joinOnes_2 (by decide) ?_
  refine QW.istore (ls' := [.val (.ref t), .val (.ref r1), .val (.ref 14), .val (.int 1), .val (.int 0), .unset, .unset]) dNf_joinOnes_3 rfl ?_
  exact k1
theorem bNf_joinOnes_5 {t : Nat} {r1 : Nat} {a3 : Int32} {a4 : Int32} {w5 : Slot} {w6 : Slot} (hX : X.length = 13) (ht : kNf t) (hr1 : kBl r1) (hw5 : qfr w5) (hw6 : qfr w6) (k1 : (12 ≤ a4) → P (.inl none, (hpo X mem sw o e))) (k2 : (¬ 12 ≤ a4) → (a3 = 0) → P (.inl none, (hpo X mem sw o e))) (k3 : (¬ 12 ≤ a4) → (¬ a3 = 0) → QW d mNf_joinOnes 21 (lNf_joinOnes_21 0 a4 0 w6 t r1) [] (hpo X mem sw o e) P) : QW d mNf_joinOnes 5 (lNf_joinOnes_5 a3 a4 w5 w6 t r1) [] (hpo X mem sw o e) P := by
  show QW d mNf_joinOnes 5 [.val (.ref t), .val (.ref r1), .val (.ref 14), .val (.int a3), .val (.int a4), w5, w6] [] (hpo X mem sw o e) P
  refine QW.iload dNf_joinOnes_5 rfl ?_
  refine QW.bipush (v := 12) dNf_joinOnes_7 (by decide) ?_
  refine QW.icmp_ge (tgt := 89) dNf_joinOnes_9 (by decide) (fun z0 => ?_) (fun z0 => ?_)
  · exact QW.vret dNf_joinOnes_89 rfl (k1 z0)
  · refine QW.iload_n dNf_joinOnes_12 rfl rfl ?_
    refine QW.if_eq (tgt := 89) dNf_joinOnes_13 (by decide) (fun z1 => ?_) (fun z1 => ?_)
    · exact QW.vret dNf_joinOnes_89 rfl (k2 z0 z1)
    · refine QW.iconst (v := 0) dNf_joinOnes_16 (by decide) ?_
      refine QW.istore_n (ls' := [.val (.ref t), .val (.ref r1), .val (.ref 14), .val (.int 0), .val (.int a4), w5, w6]) dNf_joinOnes_17 rfl rfl ?_
      refine QW.iconst (v := 0) dNf_joinOnes_18 (by decide) ?_
      refine QW.istore (ls' := [.val (.ref t), .val (.ref r1), .val (.ref 14), .val (.int 0), .val (.int a4), .val (.int 0), w6]) dNf_joinOnes_19 (by rcases hw5 with z | ⟨_, z⟩ | ⟨_, z⟩ <;> subst z <;> rfl) ?_
      exact (k3 z0 z1)
theorem bNf_joinOnes_21 {t : Nat} {r1 : Nat} {a3 : Int32} {a4 : Int32} {a5 : Int32} {w6 : Slot} (hX : X.length = 13) (ht : kNf t) (hr1 : kBl r1) (hw6 : qfr w6) (k1 : ((mem r1 2) ≤ a5) → QW d mNf_joinOnes 5 (lNf_joinOnes_5 a3 (a4 + 1) (.val (.int a5)) w6 t r1) [] (hpo X mem sw o e) P) (k2 : (¬ (mem r1 2) ≤ a5) → QW d mNf_joinOnes 36 (lNf_joinOnes_36 a3 a4 a5 (a5 + 1) t r1) [] (hpo X mem sw o e) P) : QW d mNf_joinOnes 21 (lNf_joinOnes_21 a3 a4 a5 w6 t r1) [] (hpo X mem sw o e) P := by
  show QW d mNf_joinOnes 21 [.val (.ref t), .val (.ref r1), .val (.ref 14), .val (.int a3), .val (.int a4), .val (.int a5), w6] [] (hpo X mem sw o e) P
  refine QW.iload dNf_joinOnes_21 rfl ?_
  refine QW.aload_n dNf_joinOnes_23 rfl rfl ?_
  refine MW.geti hX dNf_joinOnes_24 fNf_111 (kBl_0 hr1) rfl ?_
  refine QW.icmp_ge (tgt := 83) dNf_joinOnes_27 (by decide) (fun z0 => ?_) (fun z0 => ?_)
  · refine MW.iinc (c := 1) (ls' := [.val (.ref t), .val (.ref r1), .val (.ref 14), .val (.int a3), .val (.int (a4 + 1)), .val (.int a5), w6]) dNf_joinOnes_83 (by decide) rfl rfl ?_
    refine QW.goto (tgt := 5) dNf_joinOnes_86 (by decide) ?_
    exact (k1 z0)
  · refine QW.iload dNf_joinOnes_30 rfl ?_
    refine QW.iconst (v := 1) dNf_joinOnes_32 (by decide) ?_
    refine QW.iadd dNf_joinOnes_33 ?_
    refine QW.istore (ls' := [.val (.ref t), .val (.ref r1), .val (.ref 14), .val (.int a3), .val (.int a4), .val (.int a5), .val (.int (a5 + 1))]) dNf_joinOnes_34 (by rcases hw6 with z | ⟨_, z⟩ | ⟨_, z⟩ <;> subst z <;> rfl) ?_
    exact (k2 z0)
theorem bNf_joinOnes_36 {t : Nat} {r1 : Nat} {a3 : Int32} {a4 : Int32} {a5 : Int32} {a6 : Int32} (hX : X.length = 13) (ht : kNf t) (hr1 : kBl r1) (k1 : ((mem r1 2) ≤ a6) → QW (d + 1) mNf_joinOnes 21 (lNf_joinOnes_21 a3 a4 (a5 + 1) (.val (.int a6)) t r1) [] (hpo X mem sw o e) P) (k2 : (¬ (mem r1 2) ≤ a6) → QW d mNf_areOne 0 (qen 7 [.ref t, .int a5, .int a6, .ref r1, .ref 14]) [] (hpo X mem sw o e) (qcl d mNf_joinOnes 52 55 (lNf_joinOnes_55 a3 a4 a5 a6 t r1) [] P)) : QW (d + 1) mNf_joinOnes 36 (lNf_joinOnes_36 a3 a4 a5 a6 t r1) [] (hpo X mem sw o e) P := by
  show QW (d + 1) mNf_joinOnes 36 [.val (.ref t), .val (.ref r1), .val (.ref 14), .val (.int a3), .val (.int a4), .val (.int a5), .val (.int a6)] [] (hpo X mem sw o e) P
  refine QW.iload dNf_joinOnes_36 rfl ?_
  refine QW.aload_n dNf_joinOnes_38 rfl rfl ?_
  refine MW.geti hX dNf_joinOnes_39 fNf_111 (kBl_0 hr1) rfl ?_
  refine QW.icmp_ge (tgt := 77) dNf_joinOnes_42 (by decide) (fun z0 => ?_) (fun z0 => ?_)
  · refine MW.iinc (c := 1) (ls' := [.val (.ref t), .val (.ref r1), .val (.ref 14), .val (.int a3), .val (.int a4), .val (.int (a5 + 1)), .val (.int a6)]) dNf_joinOnes_77 (by decide) rfl rfl ?_
    refine QW.goto (tgt := 21) dNf_joinOnes_80 (by decide) ?_
    exact (k1 z0)
  · refine QW.aload_n dNf_joinOnes_45 rfl rfl ?_
    refine QW.iload dNf_joinOnes_46 rfl ?_
    refine QW.iload dNf_joinOnes_48 rfl ?_
    refine QW.aload_n dNf_joinOnes_50 rfl rfl ?_
    refine QW.aload_n dNf_joinOnes_51 rfl rfl ?_
    exact MW.calV (as := [.int a5, .int a6, .ref r1, .ref 14]) (rest := []) hX dNf_joinOnes_52 eNf_areOne lNf_114 iNf_areOne vNf_areOne rfl rfl (kNf_0 ht) rfl rfl rfl (Nat.le_of_ble_eq_true rfl) rfl (k2 z0)
theorem bNf_joinOnes_55 {t : Nat} {r1 : Nat} {a3 : Int32} {a4 : Int32} {a5 : Int32} {a6 : Int32} {s0 : Int32} (hX : X.length = 13) (ht : kNf t) (hr1 : kBl r1) (k1 : (s0 = 0) → QW (d + 1) mNf_joinOnes 36 (lNf_joinOnes_36 a3 a4 a5 (a6 + 1) t r1) [] (hpo X mem sw o e) P) (k2 : (¬ s0 = 0) → QW d mNf_mergeColumns 0 (qen 5 [.ref t, .int a5, .int a6]) [] (hpo X mem sw o e) (qcl d mNf_joinOnes 63 66 (lNf_joinOnes_66 a3 a4 a5 a6 t r1) [] P)) : QW (d + 1) mNf_joinOnes 55 (lNf_joinOnes_55 a3 a4 a5 a6 t r1) [.int s0] (hpo X mem sw o e) P := by
  show QW (d + 1) mNf_joinOnes 55 [.val (.ref t), .val (.ref r1), .val (.ref 14), .val (.int a3), .val (.int a4), .val (.int a5), .val (.int a6)] [.int s0] (hpo X mem sw o e) P
  refine QW.if_eq (tgt := 71) dNf_joinOnes_55 (by decide) (fun z0 => ?_) (fun z0 => ?_)
  · refine MW.iinc (c := 1) (ls' := [.val (.ref t), .val (.ref r1), .val (.ref 14), .val (.int a3), .val (.int a4), .val (.int a5), .val (.int (a6 + 1))]) dNf_joinOnes_71 (by decide) rfl rfl ?_
    refine QW.goto (tgt := 36) dNf_joinOnes_74 (by decide) ?_
    exact (k1 z0)
  · refine QW.aload_n dNf_joinOnes_58 rfl rfl ?_
    refine QW.iload dNf_joinOnes_59 rfl ?_
    refine QW.iload dNf_joinOnes_61 rfl ?_
    exact MW.calV (as := [.int a5, .int a6]) (rest := []) hX dNf_joinOnes_63 eNf_mergeColumns lNf_118 iNf_mergeColumns vNf_mergeColumns rfl rfl (kNf_0 ht) rfl rfl rfl (Nat.le_of_ble_eq_true rfl) rfl (k2 z0)
theorem bNf_joinOnes_66 {t : Nat} {r1 : Nat} {a3 : Int32} {a4 : Int32} {a5 : Int32} {a6 : Int32} {s0 : Int32} (hX : X.length = 13) (ht : kNf t) (hr1 : kBl r1) (k1 : (s0 = 0) → QW d mNf_joinOnes 36 (lNf_joinOnes_36 a3 a4 a5 (a6 + 1) t r1) [] (hpo X mem sw o e) P) (k2 : (¬ s0 = 0) → QW d mNf_joinOnes 36 (lNf_joinOnes_36 1 a4 a5 (a6 + 1) t r1) [] (hpo X mem sw o e) P) : QW d mNf_joinOnes 66 (lNf_joinOnes_66 a3 a4 a5 a6 t r1) [.int s0] (hpo X mem sw o e) P := by
  show QW d mNf_joinOnes 66 [.val (.ref t), .val (.ref r1), .val (.ref 14), .val (.int a3), .val (.int a4), .val (.int a5), .val (.int a6)] [.int s0] (hpo X mem sw o e) P
  refine QW.if_eq (tgt := 71) dNf_joinOnes_66 (by decide) (fun z0 => ?_) (fun z0 => ?_)
  · refine MW.iinc (c := 1) (ls' := [.val (.ref t), .val (.ref r1), .val (.ref 14), .val (.int a3), .val (.int a4), .val (.int a5), .val (.int (a6 + 1))]) dNf_joinOnes_71 (by decide) rfl rfl ?_
    refine QW.goto (tgt := 36) dNf_joinOnes_74 (by decide) ?_
    exact (k1 z0)
  · refine QW.iconst (v := 1) dNf_joinOnes_69 (by decide) ?_
    refine QW.istore_n (ls' := [.val (.ref t), .val (.ref r1), .val (.ref 14), .val (.int 1), .val (.int a4), .val (.int a5), .val (.int a6)]) dNf_joinOnes_70 rfl rfl ?_
    refine MW.iinc (c := 1) (ls' := [.val (.ref t), .val (.ref r1), .val (.ref 14), .val (.int 1), .val (.int a4), .val (.int a5), .val (.int (a6 + 1))]) dNf_joinOnes_71 (by decide) rfl rfl ?_
    refine QW.goto (tgt := 36) dNf_joinOnes_74 (by decide) ?_
    exact (k2 z0)
theorem dNf_areOne_0 : decode mNf_areOne.2.1 0 = .ok (.aload_n 3, 1) := by decide +kernel
theorem dNf_areOne_1 : decode mNf_areOne.2.1 1 = .ok (.getfield 121, 3) := by decide +kernel
theorem dNf_areOne_4 : decode mNf_areOne.2.1 4 = .ok (.iload_n 1, 1) := by decide +kernel
theorem dNf_areOne_5 : decode mNf_areOne.2.1 5 = .ok (.iaload, 1) := by decide +kernel
theorem dNf_areOne_6 : decode mNf_areOne.2.1 6 = .ok (.aload_n 3, 1) := by decide +kernel
theorem dNf_areOne_7 : decode mNf_areOne.2.1 7 = .ok (.getfield 121, 3) := by decide +kernel
theorem dNf_areOne_10 : decode mNf_areOne.2.1 10 = .ok (.iload_n 2, 1) := by decide +kernel
theorem dNf_areOne_11 : decode mNf_areOne.2.1 11 = .ok (.iaload, 1) := by decide +kernel
theorem dNf_areOne_12 : decode mNf_areOne.2.1 12 = .ok (.if_icmp .eq 5, 3) := by decide +kernel
theorem dNf_areOne_15 : decode mNf_areOne.2.1 15 = .ok (.iconst 0, 1) := by decide +kernel
theorem dNf_areOne_16 : decode mNf_areOne.2.1 16 = .ok (.ireturn, 1) := by decide +kernel
theorem dNf_areOne_17 : decode mNf_areOne.2.1 17 = .ok (.aload 4, 2) := by decide +kernel
theorem dNf_areOne_19 : decode mNf_areOne.2.1 19 = .ok (.getfield 124, 3) := by decide +kernel
theorem dNf_areOne_22 : decode mNf_areOne.2.1 22 = .ok (.aload_n 3, 1) := by decide +kernel
theorem dNf_areOne_23 : decode mNf_areOne.2.1 23 = .ok (.getfield 121, 3) := by decide +kernel
theorem dNf_areOne_26 : decode mNf_areOne.2.1 26 = .ok (.iload_n 1, 1) := by decide +kernel
theorem dNf_areOne_27 : decode mNf_areOne.2.1 27 = .ok (.iaload, 1) := by decide +kernel
theorem dNf_areOne_28 : decode mNf_areOne.2.1 28 = .ok (.aaload, 1) := by decide +kernel
theorem dNf_areOne_29 : decode mNf_areOne.2.1 29 = .ok (.astore 5, 2) := by decide +kernel
theorem dNf_areOne_31 : decode mNf_areOne.2.1 31 = .ok (.iconst 0, 1) := by decide +kernel
theorem dNf_areOne_32 : decode mNf_areOne.2.1 32 = .ok (.istore 6, 2) := by decide +kernel
theorem dNf_areOne_34 : decode mNf_areOne.2.1 34 = .ok (.iload 6, 2) := by decide +kernel
theorem dNf_areOne_36 : decode mNf_areOne.2.1 36 = .ok (.aload 5, 2) := by decide +kernel
theorem dNf_areOne_38 : decode mNf_areOne.2.1 38 = .ok (.getfield 130, 3) := by decide +kernel
theorem dNf_areOne_41 : decode mNf_areOne.2.1 41 = .ok (.if_icmp .ge 47, 3) := by decide +kernel
theorem dNf_areOne_44 : decode mNf_areOne.2.1 44 = .ok (.aload 5, 2) := by decide +kernel
theorem dNf_areOne_46 : decode mNf_areOne.2.1 46 = .ok (.getfield 135, 3) := by decide +kernel
theorem dNf_areOne_49 : decode mNf_areOne.2.1 49 = .ok (.iload 6, 2) := by decide +kernel
theorem dNf_areOne_51 : decode mNf_areOne.2.1 51 = .ok (.baload, 1) := by decide +kernel
theorem dNf_areOne_52 : decode mNf_areOne.2.1 52 = .ok (.ifCond .eq 30, 3) := by decide +kernel
theorem dNf_areOne_55 : decode mNf_areOne.2.1 55 = .ok (.aload_n 0, 1) := by decide +kernel
theorem dNf_areOne_56 : decode mNf_areOne.2.1 56 = .ok (.getfield 33, 3) := by decide +kernel
theorem dNf_areOne_59 : decode mNf_areOne.2.1 59 = .ok (.iload_n 1, 1) := by decide +kernel
theorem dNf_areOne_60 : decode mNf_areOne.2.1 60 = .ok (.iconst 3, 1) := by decide +kernel
theorem dNf_areOne_61 : decode mNf_areOne.2.1 61 = .ok (.imul, 1) := by decide +kernel
theorem dNf_areOne_62 : decode mNf_areOne.2.1 62 = .ok (.iload 6, 2) := by decide +kernel
theorem dNf_areOne_64 : decode mNf_areOne.2.1 64 = .ok (.iadd, 1) := by decide +kernel
theorem dNf_areOne_65 : decode mNf_areOne.2.1 65 = .ok (.iaload, 1) := by decide +kernel
theorem dNf_areOne_66 : decode mNf_areOne.2.1 66 = .ok (.aload_n 0, 1) := by decide +kernel
theorem dNf_areOne_67 : decode mNf_areOne.2.1 67 = .ok (.getfield 33, 3) := by decide +kernel
theorem dNf_areOne_70 : decode mNf_areOne.2.1 70 = .ok (.iload_n 2, 1) := by decide +kernel
theorem dNf_areOne_71 : decode mNf_areOne.2.1 71 = .ok (.iconst 3, 1) := by decide +kernel
theorem dNf_areOne_72 : decode mNf_areOne.2.1 72 = .ok (.imul, 1) := by decide +kernel
theorem dNf_areOne_73 : decode mNf_areOne.2.1 73 = .ok (.iload 6, 2) := by decide +kernel
theorem dNf_areOne_75 : decode mNf_areOne.2.1 75 = .ok (.iadd, 1) := by decide +kernel
theorem dNf_areOne_76 : decode mNf_areOne.2.1 76 = .ok (.iaload, 1) := by decide +kernel
theorem dNf_areOne_77 : decode mNf_areOne.2.1 77 = .ok (.if_icmp .ne 5, 3) := by decide +kernel
theorem dNf_areOne_80 : decode mNf_areOne.2.1 80 = .ok (.iconst 1, 1) := by decide +kernel
theorem dNf_areOne_81 : decode mNf_areOne.2.1 81 = .ok (.ireturn, 1) := by decide +kernel
theorem dNf_areOne_82 : decode mNf_areOne.2.1 82 = .ok (.iinc 6 1, 3) := by decide +kernel
theorem dNf_areOne_85 : decode mNf_areOne.2.1 85 = .ok (.goto (-51), 3) := by decide +kernel
theorem dNf_areOne_88 : decode mNf_areOne.2.1 88 = .ok (.iconst 0, 1) := by decide +kernel
theorem dNf_areOne_89 : decode mNf_areOne.2.1 89 = .ok (.ireturn, 1) := by decide +kernel
def lNf_areOne_34 (a1 : Int32) (a2 : Int32) (r5 : Nat) (a6 : Int32) (t : Nat) (r3 : Nat) : List Slot := [.val (.ref t), .val (.int a1), .val (.int a2), .val (.ref r3), .val (.ref 14), .val (.ref r5), .val (.int a6)]
theorem bNf_areOne_0 {t : Nat} {r3 : Nat} {a1 : Int32} {a2 : Int32} (hX : X.length = 13) (ht : kNf t) (hr3 : kBl r3) (h1 : inx a1 4) (h2 : inx a2 4) (h3 : ((mem (r3 + 1) (Int32.toNatClampNeg a1)) = (mem (r3 + 1) (Int32.toNatClampNeg a2))) → inx a1 4) (h4 : ((mem (r3 + 1) (Int32.toNatClampNeg a1)) = (mem (r3 + 1) (Int32.toNatClampNeg a2))) → inx (mem (r3 + 1) (Int32.toNatClampNeg a1)) 4) (k5 : ((mem (r3 + 1) (Int32.toNatClampNeg a1)) = (mem (r3 + 1) (Int32.toNatClampNeg a2))) → QW d mNf_areOne 34 (lNf_areOne_34 a1 a2 (16 + 3 * (Int32.toNatClampNeg (mem (r3 + 1) (Int32.toNatClampNeg a1)))) 0 t r3) [] (hpo X mem sw o e) P) (k6 : (¬ (mem (r3 + 1) (Int32.toNatClampNeg a1)) = (mem (r3 + 1) (Int32.toNatClampNeg a2))) → P (.inl (some (.int 0)), (hpo X mem sw o e))) : QW d mNf_areOne 0 (qen 7 [.ref t, .int a1, .int a2, .ref r3, .ref 14]) [] (hpo X mem sw o e) P := by
  show QW d mNf_areOne 0 [.val (.ref t), .val (.int a1), .val (.int a2), .val (.ref r3), .val (.ref 14), .unset, .unset] [] (hpo X mem sw o e) P
  refine QW.aload_n dNf_areOne_0 rfl rfl ?_
  refine MW.getr (r' := (r3 + 1)) hX dNf_areOne_1 fNf_121 (kBl_0 hr3) rfl (kBl_s1 hr3 _) ?_
  refine QW.iload_n dNf_areOne_4 rfl rfl ?_
  refine MW.iald hX dNf_areOne_5 (kBl_1 hr3) h1.1 (rep_get h1.2) ?_
  refine QW.aload_n dNf_areOne_6 rfl rfl ?_
  refine MW.getr (r' := (r3 + 1)) hX dNf_areOne_7 fNf_121 (kBl_0 hr3) rfl (kBl_s1 hr3 _) ?_
  refine QW.iload_n dNf_areOne_10 rfl rfl ?_
  refine MW.iald hX dNf_areOne_11 (kBl_1 hr3) h2.1 (rep_get h2.2) ?_
  refine QW.icmp_eq (tgt := 17) dNf_areOne_12 (by decide) (fun z0 => ?_) (fun z0 => ?_)
  · refine QW.aload dNf_areOne_17 rfl ?_
    refine MW.getr (r' := 15) hX dNf_areOne_19 fNf_124 rfl rfl (by cases sw <;> rfl) ?_
    refine QW.aload_n dNf_areOne_22 rfl rfl ?_
    refine MW.getr (r' := (r3 + 1)) hX dNf_areOne_23 fNf_121 (kBl_0 hr3) rfl (kBl_s1 hr3 _) ?_
    refine QW.iload_n dNf_areOne_26 rfl rfl ?_
    refine MW.iald hX dNf_areOne_27 (kBl_1 hr3) (h3 z0).1 (rep_get (h3 z0).2) ?_
    refine MW.aald (r' := (16 + 3 * (Int32.toNatClampNeg (mem (r3 + 1) (Int32.toNatClampNeg a1))))) hX dNf_areOne_28 rfl rfl (Nat.le_of_ble_eq_true rfl) (h4 z0).1 (el_tab (h4 z0).2) (sw_tab (h4 z0).2) ?_
    refine QW.astore (ls' := [.val (.ref t), .val (.int a1), .val (.int a2), .val (.ref r3), .val (.ref 14), .val (.ref (16 + 3 * (Int32.toNatClampNeg (mem (r3 + 1) (Int32.toNatClampNeg a1))))), .unset]) dNf_areOne_29 rfl ?_
    refine QW.iconst (v := 0) dNf_areOne_31 (by decide) ?_
    refine QW.istore (ls' := [.val (.ref t), .val (.int a1), .val (.int a2), .val (.ref r3), .val (.ref 14), .val (.ref (16 + 3 * (Int32.toNatClampNeg (mem (r3 + 1) (Int32.toNatClampNeg a1))))), .val (.int 0)]) dNf_areOne_32 rfl ?_
    exact (k5 z0)
  · refine QW.iconst (v := 0) dNf_areOne_15 (by decide) ?_
    exact QW.iret dNf_areOne_16 rfl rfl (k6 z0)
theorem bNf_areOne_34 {t : Nat} {r3 : Nat} {a1 : Int32} {a2 : Int32} {r5 : Nat} {a6 : Int32} (hX : X.length = 13) (ht : kNf t) (hr3 : kBl r3) (hr5 : kTab r5) (k1 : ((mem r5 0) ≤ a6) → P (.inl (some (.int 0)), (hpo X mem sw o e))) (h2 : (¬ (mem r5 0) ≤ a6) → inx a6 3) (k3 : (¬ (mem r5 0) ≤ a6) → ((mem (r5 + 1) (Int32.toNatClampNeg a6)) = 0) → QW d mNf_areOne 34 (lNf_areOne_34 a1 a2 r5 (a6 + 1) t r3) [] (hpo X mem sw o e) P) (h4 : (¬ (mem r5 0) ≤ a6) → (¬ (mem (r5 + 1) (Int32.toNatClampNeg a6)) = 0) → inx ((a1 * 3) + a6) 27) (h5 : (¬ (mem r5 0) ≤ a6) → (¬ (mem (r5 + 1) (Int32.toNatClampNeg a6)) = 0) → inx ((a2 * 3) + a6) 27) (k6 : (¬ (mem r5 0) ≤ a6) → (¬ (mem (r5 + 1) (Int32.toNatClampNeg a6)) = 0) → (¬ (mem (t + 8) (Int32.toNatClampNeg ((a1 * 3) + a6))) = (mem (t + 8) (Int32.toNatClampNeg ((a2 * 3) + a6)))) → QW d mNf_areOne 34 (lNf_areOne_34 a1 a2 r5 (a6 + 1) t r3) [] (hpo X mem sw o e) P) (k7 : (¬ (mem r5 0) ≤ a6) → (¬ (mem (r5 + 1) (Int32.toNatClampNeg a6)) = 0) → ((mem (t + 8) (Int32.toNatClampNeg ((a1 * 3) + a6))) = (mem (t + 8) (Int32.toNatClampNeg ((a2 * 3) + a6)))) → P (.inl (some (.int 1)), (hpo X mem sw o e))) : QW d mNf_areOne 34 (lNf_areOne_34 a1 a2 r5 a6 t r3) [] (hpo X mem sw o e) P := by
  show QW d mNf_areOne 34 [.val (.ref t), .val (.int a1), .val (.int a2), .val (.ref r3), .val (.ref 14), .val (.ref r5), .val (.int a6)] [] (hpo X mem sw o e) P
  refine QW.iload dNf_areOne_34 rfl ?_
  refine QW.aload dNf_areOne_36 rfl ?_
  refine MW.geti hX dNf_areOne_38 fNf_130 (kTab_0 hr5) rfl ?_
  refine QW.icmp_ge (tgt := 88) dNf_areOne_41 (by decide) (fun z0 => ?_) (fun z0 => ?_)
  · refine QW.iconst (v := 0) dNf_areOne_88 (by decide) ?_
    exact QW.iret dNf_areOne_89 rfl rfl (k1 z0)
  · refine QW.aload dNf_areOne_44 rfl ?_
    refine MW.getr (r' := (r5 + 1)) hX dNf_areOne_46 fNf_135 (kTab_0 hr5) rfl (kTab_s1 hr5 _) ?_
    refine QW.iload dNf_areOne_49 rfl ?_
    refine MW.zald hX dNf_areOne_51 (kTab_1 hr5) (h2 z0).1 (rep_get (h2 z0).2) ?_
    refine QW.if_eq (tgt := 82) dNf_areOne_52 (by decide) (fun z1 => ?_) (fun z1 => ?_)
    · refine MW.iinc (c := 1) (ls' := [.val (.ref t), .val (.int a1), .val (.int a2), .val (.ref r3), .val (.ref 14), .val (.ref r5), .val (.int (a6 + 1))]) dNf_areOne_82 (by decide) rfl rfl ?_
      refine QW.goto (tgt := 34) dNf_areOne_85 (by decide) ?_
      exact (k3 z0 z1)
    · refine QW.aload_n dNf_areOne_55 rfl rfl ?_
      refine MW.getr (r' := (t + 8)) hX dNf_areOne_56 fNf_33 (kNf_0 ht) rfl (kNf_s8 ht _) ?_
      refine QW.iload_n dNf_areOne_59 rfl rfl ?_
      refine QW.iconst (v := 3) dNf_areOne_60 (by decide) ?_
      refine QW.imul dNf_areOne_61 ?_
      refine QW.iload dNf_areOne_62 rfl ?_
      refine QW.iadd dNf_areOne_64 ?_
      refine MW.iald hX dNf_areOne_65 (kNf_8 ht) (h4 z0 z1).1 (rep_get (h4 z0 z1).2) ?_
      refine QW.aload_n dNf_areOne_66 rfl rfl ?_
      refine MW.getr (r' := (t + 8)) hX dNf_areOne_67 fNf_33 (kNf_0 ht) rfl (kNf_s8 ht _) ?_
      refine QW.iload_n dNf_areOne_70 rfl rfl ?_
      refine QW.iconst (v := 3) dNf_areOne_71 (by decide) ?_
      refine QW.imul dNf_areOne_72 ?_
      refine QW.iload dNf_areOne_73 rfl ?_
      refine QW.iadd dNf_areOne_75 ?_
      refine MW.iald hX dNf_areOne_76 (kNf_8 ht) (h5 z0 z1).1 (rep_get (h5 z0 z1).2) ?_
      refine QW.icmp_ne (tgt := 82) dNf_areOne_77 (by decide) (fun z2 => ?_) (fun z2 => ?_)
      · refine MW.iinc (c := 1) (ls' := [.val (.ref t), .val (.int a1), .val (.int a2), .val (.ref r3), .val (.ref 14), .val (.ref r5), .val (.int (a6 + 1))]) dNf_areOne_82 (by decide) rfl rfl ?_
        refine QW.goto (tgt := 34) dNf_areOne_85 (by decide) ?_
        exact (k6 z0 z1 z2)
      · refine QW.iconst (v := 1) dNf_areOne_80 (by decide) ?_
        exact QW.iret dNf_areOne_81 rfl rfl (k7 z0 z1 z2)
theorem dNf_mergeColumns_0 : decode mNf_mergeColumns.2.1 0 = .ok (.iconst 0, 1) := by decide +kernel
theorem dNf_mergeColumns_1 : decode mNf_mergeColumns.2.1 1 = .ok (.istore_n 3, 1) := by decide +kernel
theorem dNf_mergeColumns_2 : decode mNf_mergeColumns.2.1 2 = .ok (.iconst 0, 1) := by decide +kernel
theorem dNf_mergeColumns_3 : decode mNf_mergeColumns.2.1 3 = .ok (.istore 4, 2) := by decide +kernel
theorem dNf_mergeColumns_5 : decode mNf_mergeColumns.2.1 5 = .ok (.iload 4, 2) := by decide +kernel
theorem dNf_mergeColumns_7 : decode mNf_mergeColumns.2.1 7 = .ok (.iconst 3, 1) := by decide +kernel
theorem dNf_mergeColumns_8 : decode mNf_mergeColumns.2.1 8 = .ok (.if_icmp .ge 40, 3) := by decide +kernel
theorem dNf_mergeColumns_11 : decode mNf_mergeColumns.2.1 11 = .ok (.aload_n 0, 1) := by decide +kernel
theorem dNf_mergeColumns_12 : decode mNf_mergeColumns.2.1 12 = .ok (.aload_n 0, 1) := by decide +kernel
theorem dNf_mergeColumns_13 : decode mNf_mergeColumns.2.1 13 = .ok (.getfield 33, 3) := by decide +kernel
theorem dNf_mergeColumns_16 : decode mNf_mergeColumns.2.1 16 = .ok (.iload_n 1, 1) := by decide +kernel
theorem dNf_mergeColumns_17 : decode mNf_mergeColumns.2.1 17 = .ok (.iconst 3, 1) := by decide +kernel
theorem dNf_mergeColumns_18 : decode mNf_mergeColumns.2.1 18 = .ok (.imul, 1) := by decide +kernel
theorem dNf_mergeColumns_19 : decode mNf_mergeColumns.2.1 19 = .ok (.iload 4, 2) := by decide +kernel
theorem dNf_mergeColumns_21 : decode mNf_mergeColumns.2.1 21 = .ok (.iadd, 1) := by decide +kernel
theorem dNf_mergeColumns_22 : decode mNf_mergeColumns.2.1 22 = .ok (.iaload, 1) := by decide +kernel
theorem dNf_mergeColumns_23 : decode mNf_mergeColumns.2.1 23 = .ok (.aload_n 0, 1) := by decide +kernel
theorem dNf_mergeColumns_24 : decode mNf_mergeColumns.2.1 24 = .ok (.getfield 33, 3) := by decide +kernel
theorem dNf_mergeColumns_27 : decode mNf_mergeColumns.2.1 27 = .ok (.iload_n 2, 1) := by decide +kernel
theorem dNf_mergeColumns_28 : decode mNf_mergeColumns.2.1 28 = .ok (.iconst 3, 1) := by decide +kernel
theorem dNf_mergeColumns_29 : decode mNf_mergeColumns.2.1 29 = .ok (.imul, 1) := by decide +kernel
theorem dNf_mergeColumns_30 : decode mNf_mergeColumns.2.1 30 = .ok (.iload 4, 2) := by decide +kernel
theorem dNf_mergeColumns_32 : decode mNf_mergeColumns.2.1 32 = .ok (.iadd, 1) := by decide +kernel
theorem dNf_mergeColumns_33 : decode mNf_mergeColumns.2.1 33 = .ok (.iaload, 1) := by decide +kernel
theorem dNf_mergeColumns_34 : decode mNf_mergeColumns.2.1 34 = .ok (.invokevirtual 107, 3) := by decide +kernel
theorem dNf_mergeColumns_37 : decode mNf_mergeColumns.2.1 37 = .ok (.ifCond .eq 5, 3) := by decide +kernel
theorem dNf_mergeColumns_40 : decode mNf_mergeColumns.2.1 40 = .ok (.iconst 1, 1) := by decide +kernel
theorem dNf_mergeColumns_41 : decode mNf_mergeColumns.2.1 41 = .ok (.istore_n 3, 1) := by decide +kernel
theorem dNf_mergeColumns_42 : decode mNf_mergeColumns.2.1 42 = .ok (.iinc 4 1, 3) := by decide +kernel
theorem dNf_mergeColumns_45 : decode mNf_mergeColumns.2.1 45 = .ok (.goto (-40), 3) := by decide +kernel
theorem dNf_mergeColumns_48 : decode mNf_mergeColumns.2.1 48 = .ok (.iload_n 3, 1) := by decide +kernel
theorem dNf_mergeColumns_49 : decode mNf_mergeColumns.2.1 49 = .ok (.ireturn, 1) := by decide +kernel
def lNf_mergeColumns_5 (a1 : Int32) (a2 : Int32) (a3 : Int32) (a4 : Int32) (t : Nat) : List Slot := [.val (.ref t), .val (.int a1), .val (.int a2), .val (.int a3), .val (.int a4)]
def lNf_mergeColumns_37 (a1 : Int32) (a2 : Int32) (a3 : Int32) (a4 : Int32) (t : Nat) : List Slot := [.val (.ref t), .val (.int a1), .val (.int a2), .val (.int a3), .val (.int a4)]
theorem bNf_mergeColumns_0 {t : Nat} {a1 : Int32} {a2 : Int32} (hX : X.length = 13) (ht : kNf t) (k1 : QW d mNf_mergeColumns 5 (lNf_mergeColumns_5 a1 a2 0 0 t) [] (hpo X mem sw o e) P) : QW d mNf_mergeColumns 0 (qen 5 [.ref t, .int a1, .int a2]) [] (hpo X mem sw o e) P := by
  show QW d mNf_mergeColumns 0 [.val (.ref t), .val (.int a1), .val (.int a2), .unset, .unset] [] (hpo X mem sw o e) P
  refine QW.iconst (v := 0) dNf_mergeColumns_0 (by decide) ?_
  refine QW.istore_n (ls' := [.val (.ref t), .val (.int a1), .val (.int a2), .val (.int 0), .unset]) dNf_mergeColumns_1 rfl rfl ?_
  refine QW.iconst (v := 0) dNf_mergeColumns_2 (by decide) ?_
  refine QW.istore (ls' := [.val (.ref t), .val (.int a1), .val (.int a2), .val (.int 0), .val (.int 0)]) dNf_mergeColumns_3 rfl ?_
  exact k1
theorem bNf_mergeColumns_5 {t : Nat} {a1 : Int32} {a2 : Int32} {a3 : Int32} {a4 : Int32} (hX : X.length = 13) (ht : kNf t) (h1 : (3 ≤ a4) → narrow .boolean (.int a3) = .int a3) (k2 : (3 ≤ a4) → P (.inl (some (.int a3)), (hpo X mem sw o e))) (h3 : (¬ 3 ≤ a4) → inx ((a1 * 3) + a4) 27) (h4 : (¬ 3 ≤ a4) → inx ((a2 * 3) + a4) 27) (k5 : (¬ 3 ≤ a4) → QW d mNf_merge 0 (qen 4 [.ref t, .int (mem (t + 8) (Int32.toNatClampNeg ((a1 * 3) + a4))), .int (mem (t + 8) (Int32.toNatClampNeg ((a2 * 3) + a4)))]) [] (hpo X mem sw o e) (qcl d mNf_mergeColumns 34 37 (lNf_mergeColumns_37 a1 a2 a3 a4 t) [] P)) : QW (d + 1) mNf_mergeColumns 5 (lNf_mergeColumns_5 a1 a2 a3 a4 t) [] (hpo X mem sw o e) P := by
  show QW (d + 1) mNf_mergeColumns 5 [.val (.ref t), .val (.int a1), .val (.int a2), .val (.int a3), .val (.int a4)] [] (hpo X mem sw o e) P
  refine QW.iload dNf_mergeColumns_5 rfl ?_
  refine QW.iconst (v := 3) dNf_mergeColumns_7 (by decide) ?_
  refine QW.icmp_ge (tgt := 48) dNf_mergeColumns_8 (by decide) (fun z0 => ?_) (fun z0 => ?_)
  · refine QW.iload_n dNf_mergeColumns_48 rfl rfl ?_
    exact QW.iret dNf_mergeColumns_49 rfl (h1 z0) (k2 z0)
  · refine QW.aload_n dNf_mergeColumns_11 rfl rfl ?_
    refine QW.aload_n dNf_mergeColumns_12 rfl rfl ?_
    refine MW.getr (r' := (t + 8)) hX dNf_mergeColumns_13 fNf_33 (kNf_0 ht) rfl (kNf_s8 ht _) ?_
    refine QW.iload_n dNf_mergeColumns_16 rfl rfl ?_
    refine QW.iconst (v := 3) dNf_mergeColumns_17 (by decide) ?_
    refine QW.imul dNf_mergeColumns_18 ?_
    refine QW.iload dNf_mergeColumns_19 rfl ?_
    refine QW.iadd dNf_mergeColumns_21 ?_
    refine MW.iald hX dNf_mergeColumns_22 (kNf_8 ht) (h3 z0).1 (rep_get (h3 z0).2) ?_
    refine QW.aload_n dNf_mergeColumns_23 rfl rfl ?_
    refine MW.getr (r' := (t + 8)) hX dNf_mergeColumns_24 fNf_33 (kNf_0 ht) rfl (kNf_s8 ht _) ?_
    refine QW.iload_n dNf_mergeColumns_27 rfl rfl ?_
    refine QW.iconst (v := 3) dNf_mergeColumns_28 (by decide) ?_
    refine QW.imul dNf_mergeColumns_29 ?_
    refine QW.iload dNf_mergeColumns_30 rfl ?_
    refine QW.iadd dNf_mergeColumns_32 ?_
    refine MW.iald hX dNf_mergeColumns_33 (kNf_8 ht) (h4 z0).1 (rep_get (h4 z0).2) ?_
    exact MW.calV (as := [.int (mem (t + 8) (Int32.toNatClampNeg ((a1 * 3) + a4))), .int (mem (t + 8) (Int32.toNatClampNeg ((a2 * 3) + a4)))]) (rest := []) hX dNf_mergeColumns_34 eNf_merge lNf_107 iNf_merge vNf_merge rfl rfl (kNf_0 ht) rfl rfl rfl (Nat.le_of_ble_eq_true rfl) rfl (k5 z0)
theorem bNf_mergeColumns_37 {t : Nat} {a1 : Int32} {a2 : Int32} {a3 : Int32} {a4 : Int32} {s0 : Int32} (hX : X.length = 13) (ht : kNf t) (k1 : (s0 = 0) → QW d mNf_mergeColumns 5 (lNf_mergeColumns_5 a1 a2 a3 (a4 + 1) t) [] (hpo X mem sw o e) P) (k2 : (¬ s0 = 0) → QW d mNf_mergeColumns 5 (lNf_mergeColumns_5 a1 a2 1 (a4 + 1) t) [] (hpo X mem sw o e) P) : QW d mNf_mergeColumns 37 (lNf_mergeColumns_37 a1 a2 a3 a4 t) [.int s0] (hpo X mem sw o e) P := by
  show QW d mNf_mergeColumns 37 [.val (.ref t), .val (.int a1), .val (.int a2), .val (.int a3), .val (.int a4)] [.int s0] (hpo X mem sw o e) P
  refine QW.if_eq (tgt := 42) dNf_mergeColumns_37 (by decide) (fun z0 => ?_) (fun z0 => ?_)
  · refine MW.iinc (c := 1) (ls' := [.val (.ref t), .val (.int a1), .val (.int a2), .val (.int a3), .val (.int (a4 + 1))]) dNf_mergeColumns_42 (by decide) rfl rfl ?_
    refine QW.goto (tgt := 5) dNf_mergeColumns_45 (by decide) ?_
    exact (k1 z0)
  · refine QW.iconst (v := 1) dNf_mergeColumns_40 (by decide) ?_
    refine QW.istore_n (ls' := [.val (.ref t), .val (.int a1), .val (.int a2), .val (.int 1), .val (.int a4)]) dNf_mergeColumns_41 rfl rfl ?_
    refine MW.iinc (c := 1) (ls' := [.val (.ref t), .val (.int a1), .val (.int a2), .val (.int 1), .val (.int (a4 + 1))]) dNf_mergeColumns_42 (by decide) rfl rfl ?_
    refine QW.goto (tgt := 5) dNf_mergeColumns_45 (by decide) ?_
    exact (k2 z0)
theorem dNf_numberClasses_0 : decode mNf_numberClasses.2.1 0 = .ok (.iconst 0, 1) := by decide +kernel
theorem dNf_numberClasses_1 : decode mNf_numberClasses.2.1 1 = .ok (.istore_n 1, 1) := by decide +kernel
theorem dNf_numberClasses_2 : decode mNf_numberClasses.2.1 2 = .ok (.iload_n 1, 1) := by decide +kernel
theorem dNf_numberClasses_3 : decode mNf_numberClasses.2.1 3 = .ok (.bipush 27, 2) := by decide +kernel
theorem dNf_numberClasses_5 : decode mNf_numberClasses.2.1 5 = .ok (.if_icmp .ge 18, 3) := by decide +kernel
theorem dNf_numberClasses_8 : decode mNf_numberClasses.2.1 8 = .ok (.aload_n 0, 1) := by decide +kernel
theorem dNf_numberClasses_9 : decode mNf_numberClasses.2.1 9 = .ok (.getfield 36, 3) := by decide +kernel
theorem dNf_numberClasses_12 : decode mNf_numberClasses.2.1 12 = .ok (.iload_n 1, 1) := by decide +kernel
theorem dNf_numberClasses_13 : decode mNf_numberClasses.2.1 13 = .ok (.sipush (-1000), 3) := by decide +kernel
theorem dNf_numberClasses_16 : decode mNf_numberClasses.2.1 16 = .ok (.iastore, 1) := by decide +kernel
theorem dNf_numberClasses_17 : decode mNf_numberClasses.2.1 17 = .ok (.iinc 1 1, 3) := by decide +kernel
theorem dNf_numberClasses_20 : decode mNf_numberClasses.2.1 20 = .ok (.goto (-18), 3) := by decide +kernel
theorem dNf_numberClasses_23 : decode mNf_numberClasses.2.1 23 = .ok (.iconst 0, 1) := by decide +kernel
theorem dNf_numberClasses_24 : decode mNf_numberClasses.2.1 24 = .ok (.istore_n 1, 1) := by decide +kernel
theorem dNf_numberClasses_25 : decode mNf_numberClasses.2.1 25 = .ok (.iload_n 1, 1) := by decide +kernel
theorem dNf_numberClasses_26 : decode mNf_numberClasses.2.1 26 = .ok (.aload_n 0, 1) := by decide +kernel
theorem dNf_numberClasses_27 : decode mNf_numberClasses.2.1 27 = .ok (.getfield 72, 3) := by decide +kernel
theorem dNf_numberClasses_30 : decode mNf_numberClasses.2.1 30 = .ok (.if_icmp .ge 48, 3) := by decide +kernel
theorem dNf_numberClasses_33 : decode mNf_numberClasses.2.1 33 = .ok (.aload_n 0, 1) := by decide +kernel
theorem dNf_numberClasses_34 : decode mNf_numberClasses.2.1 34 = .ok (.getfield 33, 3) := by decide +kernel
theorem dNf_numberClasses_37 : decode mNf_numberClasses.2.1 37 = .ok (.bipush 12, 2) := by decide +kernel
theorem dNf_numberClasses_39 : decode mNf_numberClasses.2.1 39 = .ok (.iload_n 1, 1) := by decide +kernel
theorem dNf_numberClasses_40 : decode mNf_numberClasses.2.1 40 = .ok (.iadd, 1) := by decide +kernel
theorem dNf_numberClasses_41 : decode mNf_numberClasses.2.1 41 = .ok (.iaload, 1) := by decide +kernel
theorem dNf_numberClasses_42 : decode mNf_numberClasses.2.1 42 = .ok (.istore_n 2, 1) := by decide +kernel
theorem dNf_numberClasses_43 : decode mNf_numberClasses.2.1 43 = .ok (.aload_n 0, 1) := by decide +kernel
theorem dNf_numberClasses_44 : decode mNf_numberClasses.2.1 44 = .ok (.getfield 36, 3) := by decide +kernel
theorem dNf_numberClasses_47 : decode mNf_numberClasses.2.1 47 = .ok (.iload_n 2, 1) := by decide +kernel
theorem dNf_numberClasses_48 : decode mNf_numberClasses.2.1 48 = .ok (.iaload, 1) := by decide +kernel
theorem dNf_numberClasses_49 : decode mNf_numberClasses.2.1 49 = .ok (.sipush (-1000), 3) := by decide +kernel
theorem dNf_numberClasses_52 : decode mNf_numberClasses.2.1 52 = .ok (.if_icmp .eq 8, 3) := by decide +kernel
theorem dNf_numberClasses_55 : decode mNf_numberClasses.2.1 55 = .ok (.aload_n 0, 1) := by decide +kernel
theorem dNf_numberClasses_56 : decode mNf_numberClasses.2.1 56 = .ok (.iconst 1, 1) := by decide +kernel
theorem dNf_numberClasses_57 : decode mNf_numberClasses.2.1 57 = .ok (.putfield 39, 3) := by decide +kernel
theorem dNf_numberClasses_60 : decode mNf_numberClasses.2.1 60 = .ok (.aload_n 0, 1) := by decide +kernel
theorem dNf_numberClasses_61 : decode mNf_numberClasses.2.1 61 = .ok (.getfield 36, 3) := by decide +kernel
theorem dNf_numberClasses_64 : decode mNf_numberClasses.2.1 64 = .ok (.iload_n 2, 1) := by decide +kernel
theorem dNf_numberClasses_65 : decode mNf_numberClasses.2.1 65 = .ok (.aload_n 0, 1) := by decide +kernel
theorem dNf_numberClasses_66 : decode mNf_numberClasses.2.1 66 = .ok (.getfield 30, 3) := by decide +kernel
theorem dNf_numberClasses_69 : decode mNf_numberClasses.2.1 69 = .ok (.iload_n 1, 1) := by decide +kernel
theorem dNf_numberClasses_70 : decode mNf_numberClasses.2.1 70 = .ok (.iaload, 1) := by decide +kernel
theorem dNf_numberClasses_71 : decode mNf_numberClasses.2.1 71 = .ok (.iastore, 1) := by decide +kernel
theorem dNf_numberClasses_72 : decode mNf_numberClasses.2.1 72 = .ok (.iinc 1 1, 3) := by decide +kernel
theorem dNf_numberClasses_75 : decode mNf_numberClasses.2.1 75 = .ok (.goto (-50), 3) := by decide +kernel
theorem dNf_numberClasses_78 : decode mNf_numberClasses.2.1 78 = .ok (.return_, 1) := by decide +kernel
def lNf_numberClasses_2 (a1 : Int32) (t : Nat) : List Slot := [.val (.ref t), .val (.int a1), .unset]
def lNf_numberClasses_25 (a1 : Int32) (w2 : Slot) (t : Nat) : List Slot := [.val (.ref t), .val (.int a1), w2]
def lNf_numberClasses_60 (a1 : Int32) (a2 : Int32) (t : Nat) : List Slot := [.val (.ref t), .val (.int a1), .val (.int a2)]
theorem bNf_numberClasses_0 {t : Nat} (hX : X.length = 13) (ht : kNf t) (k1 : QW d mNf_numberClasses 2 (lNf_numberClasses_2 0 t) [] (hpo X mem sw o e) P) : QW d mNf_numberClasses 0 (qen 3 [.ref t]) [] (hpo X mem sw o e) P := by
  show QW d mNf_numberClasses 0 [.val (.ref t), .unset, .unset] [] (hpo X mem sw o e) P
  refine QW.iconst (v := 0) dNf_numberClasses_0 (by decide) ?_
  refine QW.istore_n (ls' := [.val (.ref t), .val (.int 0), .unset]) dNf_numberClasses_1 rfl rfl ?_
  exact k1
theorem bNf_numberClasses_2 {t : Nat} {a1 : Int32} (hX : X.length = 13) (ht : kNf t) (k1 : (27 ≤ a1) → QW d mNf_numberClasses 25 (lNf_numberClasses_25 0 .unset t) [] (hpo X mem sw o e) P) (h2 : (¬ 27 ≤ a1) → inx a1 27) (k3 : (¬ 27 ≤ a1) → QW d mNf_numberClasses 2 (lNf_numberClasses_2 (a1 + 1) t) [] (hpo X (mup mem (t + 9) (Int32.toNatClampNeg a1) (-1000)) sw o e) P) : QW d mNf_numberClasses 2 (lNf_numberClasses_2 a1 t) [] (hpo X mem sw o e) P := by
  show QW d mNf_numberClasses 2 [.val (.ref t), .val (.int a1), .unset] [] (hpo X mem sw o e) P
  refine QW.iload_n dNf_numberClasses_2 rfl rfl ?_
  refine QW.bipush (v := 27) dNf_numberClasses_3 (by decide) ?_
  refine QW.icmp_ge (tgt := 23) dNf_numberClasses_5 (by decide) (fun z0 => ?_) (fun z0 => ?_)
  · refine QW.iconst (v := 0) dNf_numberClasses_23 (by decide) ?_
    refine QW.istore_n (ls' := [.val (.ref t), .val (.int 0), .unset]) dNf_numberClasses_24 rfl rfl ?_
    exact (k1 z0)
  · refine QW.aload_n dNf_numberClasses_8 rfl rfl ?_
    refine MW.getr (r' := (t + 9)) hX dNf_numberClasses_9 fNf_36 (kNf_0 ht) rfl (kNf_s9 ht _) ?_
    refine QW.iload_n dNf_numberClasses_12 rfl rfl ?_
    refine QW.sipush (v := (-1000)) dNf_numberClasses_13 (by decide) ?_
    refine MW.iast hX dNf_numberClasses_16 (kNf_9 ht) (h2 z0).1 (rep_get (h2 z0).2) ?_
    refine MW.iinc (c := 1) (ls' := [.val (.ref t), .val (.int (a1 + 1)), .unset]) dNf_numberClasses_17 (by decide) rfl rfl ?_
    refine QW.goto (tgt := 2) dNf_numberClasses_20 (by decide) ?_
    exact (k3 z0)
theorem bNf_numberClasses_25 {t : Nat} {a1 : Int32} {w2 : Slot} (hX : X.length = 13) (ht : kNf t) (hw2 : qfr w2) (k1 : ((mem t 11) ≤ a1) → P (.inl none, (hpo X mem sw o e))) (h2 : (¬ (mem t 11) ≤ a1) → inx (12 + a1) 27) (h3 : (¬ (mem t 11) ≤ a1) → inx (mem (t + 8) (Int32.toNatClampNeg (12 + a1))) 27) (k4 : (¬ (mem t 11) ≤ a1) → ((mem (t + 9) (Int32.toNatClampNeg (mem (t + 8) (Int32.toNatClampNeg (12 + a1))))) = (-1000)) → QW d mNf_numberClasses 60 (lNf_numberClasses_60 a1 (mem (t + 8) (Int32.toNatClampNeg (12 + a1))) t) [] (hpo X mem sw o e) P) (k5 : (¬ (mem t 11) ≤ a1) → (¬ (mem (t + 9) (Int32.toNatClampNeg (mem (t + 8) (Int32.toNatClampNeg (12 + a1))))) = (-1000)) → QW d mNf_numberClasses 60 (lNf_numberClasses_60 a1 (mem (t + 8) (Int32.toNatClampNeg (12 + a1))) t) [] (hpo X (mup mem t 0 1) sw o e) P) : QW d mNf_numberClasses 25 (lNf_numberClasses_25 a1 w2 t) [] (hpo X mem sw o e) P := by
  show QW d mNf_numberClasses 25 [.val (.ref t), .val (.int a1), w2] [] (hpo X mem sw o e) P
  refine QW.iload_n dNf_numberClasses_25 rfl rfl ?_
  refine QW.aload_n dNf_numberClasses_26 rfl rfl ?_
  refine MW.geti hX dNf_numberClasses_27 fNf_72 (kNf_0 ht) rfl ?_
  refine QW.icmp_ge (tgt := 78) dNf_numberClasses_30 (by decide) (fun z0 => ?_) (fun z0 => ?_)
  · exact QW.vret dNf_numberClasses_78 rfl (k1 z0)
  · refine QW.aload_n dNf_numberClasses_33 rfl rfl ?_
    refine MW.getr (r' := (t + 8)) hX dNf_numberClasses_34 fNf_33 (kNf_0 ht) rfl (kNf_s8 ht _) ?_
    refine QW.bipush (v := 12) dNf_numberClasses_37 (by decide) ?_
    refine QW.iload_n dNf_numberClasses_39 rfl rfl ?_
    refine QW.iadd dNf_numberClasses_40 ?_
    refine MW.iald hX dNf_numberClasses_41 (kNf_8 ht) (h2 z0).1 (rep_get (h2 z0).2) ?_
    refine QW.istore_n (ls' := [.val (.ref t), .val (.int a1), .val (.int (mem (t + 8) (Int32.toNatClampNeg (12 + a1))))]) dNf_numberClasses_42 rfl (by rcases hw2 with z | ⟨_, z⟩ | ⟨_, z⟩ <;> subst z <;> rfl) ?_
    refine QW.aload_n dNf_numberClasses_43 rfl rfl ?_
    refine MW.getr (r' := (t + 9)) hX dNf_numberClasses_44 fNf_36 (kNf_0 ht) rfl (kNf_s9 ht _) ?_
    refine QW.iload_n dNf_numberClasses_47 rfl rfl ?_
    refine MW.iald hX dNf_numberClasses_48 (kNf_9 ht) (h3 z0).1 (rep_get (h3 z0).2) ?_
    refine QW.sipush (v := (-1000)) dNf_numberClasses_49 (by decide) ?_
    refine QW.icmp_eq (tgt := 60) dNf_numberClasses_52 (by decide) (fun z1 => ?_) (fun z1 => ?_)
    · exact (k4 z0 z1)
    · refine QW.aload_n dNf_numberClasses_55 rfl rfl ?_
      refine QW.iconst (v := 1) dNf_numberClasses_56 (by decide) ?_
      refine MW.putz hX dNf_numberClasses_57 fNf_39 (kNf_0 ht) rfl rfl rfl rfl ?_
      exact (k5 z0 z1)
theorem bNf_numberClasses_60 {t : Nat} {a1 : Int32} {a2 : Int32} (hX : X.length = 13) (ht : kNf t) (h1 : inx a1 15) (h2 : inx a2 27) (k3 : QW d mNf_numberClasses 25 (lNf_numberClasses_25 (a1 + 1) (.val (.int a2)) t) [] (hpo X (mup mem (t + 9) (Int32.toNatClampNeg a2) (mem (t + 7) (Int32.toNatClampNeg a1))) sw o e) P) : QW d mNf_numberClasses 60 (lNf_numberClasses_60 a1 a2 t) [] (hpo X mem sw o e) P := by
  show QW d mNf_numberClasses 60 [.val (.ref t), .val (.int a1), .val (.int a2)] [] (hpo X mem sw o e) P
  refine QW.aload_n dNf_numberClasses_60 rfl rfl ?_
  refine MW.getr (r' := (t + 9)) hX dNf_numberClasses_61 fNf_36 (kNf_0 ht) rfl (kNf_s9 ht _) ?_
  refine QW.iload_n dNf_numberClasses_64 rfl rfl ?_
  refine QW.aload_n dNf_numberClasses_65 rfl rfl ?_
  refine MW.getr (r' := (t + 7)) hX dNf_numberClasses_66 fNf_30 (kNf_0 ht) rfl (kNf_s7 ht _) ?_
  refine QW.iload_n dNf_numberClasses_69 rfl rfl ?_
  refine MW.iald hX dNf_numberClasses_70 (kNf_7 ht) h1.1 (rep_get h1.2) ?_
  refine MW.iast hX dNf_numberClasses_71 (kNf_9 ht) h2.1 (rep_get h2.2) ?_
  refine MW.iinc (c := 1) (ls' := [.val (.ref t), .val (.int (a1 + 1)), .val (.int a2)]) dNf_numberClasses_72 (by decide) rfl rfl ?_
  refine QW.goto (tgt := 25) dNf_numberClasses_75 (by decide) ?_
  exact k3
theorem dNf_findLess_0 : decode mNf_findLess.2.1 0 = .ok (.aload_n 0, 1) := by decide +kernel
theorem dNf_findLess_1 : decode mNf_findLess.2.1 1 = .ok (.iconst 0, 1) := by decide +kernel
theorem dNf_findLess_2 : decode mNf_findLess.2.1 2 = .ok (.putfield 138, 3) := by decide +kernel
theorem dNf_findLess_5 : decode mNf_findLess.2.1 5 = .ok (.iconst 0, 1) := by decide +kernel
theorem dNf_findLess_6 : decode mNf_findLess.2.1 6 = .ok (.istore_n 2, 1) := by decide +kernel
theorem dNf_findLess_7 : decode mNf_findLess.2.1 7 = .ok (.iload_n 2, 1) := by decide +kernel
theorem dNf_findLess_8 : decode mNf_findLess.2.1 8 = .ok (.aload_n 1, 1) := by decide +kernel
theorem dNf_findLess_9 : decode mNf_findLess.2.1 9 = .ok (.getfield 90, 3) := by decide +kernel
theorem dNf_findLess_12 : decode mNf_findLess.2.1 12 = .ok (.if_icmp .ge 40, 3) := by decide +kernel
theorem dNf_findLess_15 : decode mNf_findLess.2.1 15 = .ok (.aload_n 1, 1) := by decide +kernel
theorem dNf_findLess_16 : decode mNf_findLess.2.1 16 = .ok (.getfield 93, 3) := by decide +kernel
theorem dNf_findLess_19 : decode mNf_findLess.2.1 19 = .ok (.iload_n 2, 1) := by decide +kernel
theorem dNf_findLess_20 : decode mNf_findLess.2.1 20 = .ok (.baload, 1) := by decide +kernel
theorem dNf_findLess_21 : decode mNf_findLess.2.1 21 = .ok (.ifCond .eq 25, 3) := by decide +kernel
theorem dNf_findLess_24 : decode mNf_findLess.2.1 24 = .ok (.aload_n 0, 1) := by decide +kernel
theorem dNf_findLess_25 : decode mNf_findLess.2.1 25 = .ok (.aload_n 0, 1) := by decide +kernel
theorem dNf_findLess_26 : decode mNf_findLess.2.1 26 = .ok (.aload_n 1, 1) := by decide +kernel
theorem dNf_findLess_27 : decode mNf_findLess.2.1 27 = .ok (.iload_n 2, 1) := by decide +kernel
theorem dNf_findLess_28 : decode mNf_findLess.2.1 28 = .ok (.invokestatic 97, 3) := by decide +kernel
theorem dNf_findLess_31 : decode mNf_findLess.2.1 31 = .ok (.invokevirtual 100, 3) := by decide +kernel
theorem dNf_findLess_34 : decode mNf_findLess.2.1 34 = .ok (.aload_n 0, 1) := by decide +kernel
theorem dNf_findLess_35 : decode mNf_findLess.2.1 35 = .ok (.aload_n 1, 1) := by decide +kernel
theorem dNf_findLess_36 : decode mNf_findLess.2.1 36 = .ok (.iload_n 2, 1) := by decide +kernel
theorem dNf_findLess_37 : decode mNf_findLess.2.1 37 = .ok (.invokestatic 104, 3) := by decide +kernel
theorem dNf_findLess_40 : decode mNf_findLess.2.1 40 = .ok (.invokevirtual 100, 3) := by decide +kernel
theorem dNf_findLess_43 : decode mNf_findLess.2.1 43 = .ok (.invokevirtual 141, 3) := by decide +kernel
theorem dNf_findLess_46 : decode mNf_findLess.2.1 46 = .ok (.iinc 2 1, 3) := by decide +kernel
theorem dNf_findLess_49 : decode mNf_findLess.2.1 49 = .ok (.goto (-42), 3) := by decide +kernel
theorem dNf_findLess_52 : decode mNf_findLess.2.1 52 = .ok (.return_, 1) := by decide +kernel
def lNf_findLess_7 (a2 : Int32) (t : Nat) (r1 : Nat) : List Slot := [.val (.ref t), .val (.ref r1), .val (.int a2)]
def lNf_findLess_31 (a2 : Int32) (t : Nat) (r1 : Nat) : List Slot := [.val (.ref t), .val (.ref r1), .val (.int a2)]
def lNf_findLess_34 (a2 : Int32) (t : Nat) (r1 : Nat) : List Slot := [.val (.ref t), .val (.ref r1), .val (.int a2)]
def lNf_findLess_40 (a2 : Int32) (t : Nat) (r1 : Nat) : List Slot := [.val (.ref t), .val (.ref r1), .val (.int a2)]
def lNf_findLess_43 (a2 : Int32) (t : Nat) (r1 : Nat) : List Slot := [.val (.ref t), .val (.ref r1), .val (.int a2)]
def lNf_findLess_46 (a2 : Int32) (t : Nat) (r1 : Nat) : List Slot := [.val (.ref t), .val (.ref r1), .val (.int a2)]
theorem bNf_findLess_0 {t : Nat} {r1 : Nat} (hX : X.length = 13) (ht : kNf t) (hr1 : kBl r1) (k1 : QW d mNf_findLess 7 (lNf_findLess_7 0 t r1) [] (hpo X (mup mem t 4 0) sw o e) P) : QW d mNf_findLess 0 (qen 3 [.ref t, .ref r1]) [] (hpo X mem sw o e) P := by
  show QW d mNf_findLess 0 [.val (.ref t), .val (.ref r1), .unset] [] (hpo X mem sw o e) P
  refine QW.aload_n dNf_findLess_0 rfl rfl ?_
  refine QW.iconst (v := 0) dNf_findLess_1 (by decide) ?_
  refine MW.puti hX dNf_findLess_2 fNf_138 (kNf_0 ht) rfl rfl ?_
  refine QW.iconst (v := 0) dNf_findLess_5 (by decide) ?_
  refine QW.istore_n (ls' := [.val (.ref t), .val (.ref r1), .val (.int 0)]) dNf_findLess_6 rfl rfl ?_
  exact k1
theorem bNf_findLess_7 {t : Nat} {r1 : Nat} {a2 : Int32} (hX : X.length = 13) (ht : kNf t) (hr1 : kBl r1) (k1 : ((mem r1 3) ≤ a2) → P (.inl none, (hpo X mem sw o e))) (h2 : (¬ (mem r1 3) ≤ a2) → inx a2 6) (k3 : (¬ (mem r1 3) ≤ a2) → ((mem (r1 + 3) (Int32.toNatClampNeg a2)) = 0) → QW (d + 1) mNf_findLess 46 (lNf_findLess_46 a2 t r1) [] (hpo X mem sw o e) P) (k4 : (¬ (mem r1 3) ≤ a2) → (¬ (mem (r1 + 3) (Int32.toNatClampNeg a2)) = 0) → QW d mBl_lowSlot 0 (qen 1 [.int a2]) [] (hpo X mem sw o e) (qcl d mNf_findLess 28 31 (lNf_findLess_31 a2 t r1) [.ref r1, .ref t, .ref t] P)) : QW (d + 1) mNf_findLess 7 (lNf_findLess_7 a2 t r1) [] (hpo X mem sw o e) P := by
  show QW (d + 1) mNf_findLess 7 [.val (.ref t), .val (.ref r1), .val (.int a2)] [] (hpo X mem sw o e) P
  refine QW.iload_n dNf_findLess_7 rfl rfl ?_
  refine QW.aload_n dNf_findLess_8 rfl rfl ?_
  refine MW.geti hX dNf_findLess_9 fNf_90 (kBl_0 hr1) rfl ?_
  refine QW.icmp_ge (tgt := 52) dNf_findLess_12 (by decide) (fun z0 => ?_) (fun z0 => ?_)
  · exact QW.vret dNf_findLess_52 rfl (k1 z0)
  · refine QW.aload_n dNf_findLess_15 rfl rfl ?_
    refine MW.getr (r' := (r1 + 3)) hX dNf_findLess_16 fNf_93 (kBl_0 hr1) rfl (kBl_s3 hr1 _) ?_
    refine QW.iload_n dNf_findLess_19 rfl rfl ?_
    refine MW.zald hX dNf_findLess_20 (kBl_3 hr1) (h2 z0).1 (rep_get (h2 z0).2) ?_
    refine QW.if_eq (tgt := 46) dNf_findLess_21 (by decide) (fun z1 => ?_) (fun z1 => ?_)
    · exact (k3 z0 z1)
    · refine QW.aload_n dNf_findLess_24 rfl rfl ?_
      refine QW.aload_n dNf_findLess_25 rfl rfl ?_
      refine QW.aload_n dNf_findLess_26 rfl rfl ?_
      refine QW.iload_n dNf_findLess_27 rfl rfl ?_
      exact MW.calS (as := [.int a2]) (rest := [.ref r1, .ref t, .ref t]) dNf_findLess_28 eBl_lowSlot lNf_97 sBl_lowSlot rfl rfl rfl (Nat.le_of_ble_eq_true rfl) rfl (k4 z0 z1)
theorem bNf_findLess_31 {t : Nat} {r1 : Nat} {a2 : Int32} {s3 : Int32} (hX : X.length = 13) (ht : kNf t) (hr1 : kBl r1) (k1 : QW d mNf_classOfSlot 0 (qen 5 [.ref t, .ref r1, .int s3]) [] (hpo X mem sw o e) (qcl d mNf_findLess 31 34 (lNf_findLess_34 a2 t r1) [.ref t] P)) : QW (d + 1) mNf_findLess 31 (lNf_findLess_31 a2 t r1) [.int s3, .ref r1, .ref t, .ref t] (hpo X mem sw o e) P := by
  show QW (d + 1) mNf_findLess 31 [.val (.ref t), .val (.ref r1), .val (.int a2)] [.int s3, .ref r1, .ref t, .ref t] (hpo X mem sw o e) P
  exact MW.calV (as := [.ref r1, .int s3]) (rest := [.ref t]) hX dNf_findLess_31 eNf_classOfSlot lNf_100 iNf_classOfSlot vNf_classOfSlot rfl rfl (kNf_0 ht) rfl rfl rfl (Nat.le_of_ble_eq_true rfl) rfl k1
theorem bNf_findLess_34 {t : Nat} {r1 : Nat} {a2 : Int32} {s1 : Int32} (hX : X.length = 13) (ht : kNf t) (hr1 : kBl r1) (k1 : QW d mBl_highSlot 0 (qen 1 [.int a2]) [] (hpo X mem sw o e) (qcl d mNf_findLess 37 40 (lNf_findLess_40 a2 t r1) [.ref r1, .ref t, .int s1, .ref t] P)) : QW (d + 1) mNf_findLess 34 (lNf_findLess_34 a2 t r1) [.int s1, .ref t] (hpo X mem sw o e) P := by
  show QW (d + 1) mNf_findLess 34 [.val (.ref t), .val (.ref r1), .val (.int a2)] [.int s1, .ref t] (hpo X mem sw o e) P
  refine QW.aload_n dNf_findLess_34 rfl rfl ?_
  refine QW.aload_n dNf_findLess_35 rfl rfl ?_
  refine QW.iload_n dNf_findLess_36 rfl rfl ?_
  exact MW.calS (as := [.int a2]) (rest := [.ref r1, .ref t, .int s1, .ref t]) dNf_findLess_37 eBl_highSlot lNf_104 sBl_highSlot rfl rfl rfl (Nat.le_of_ble_eq_true rfl) rfl k1
theorem bNf_findLess_40 {t : Nat} {r1 : Nat} {a2 : Int32} {s4 : Int32} {s1 : Int32} (hX : X.length = 13) (ht : kNf t) (hr1 : kBl r1) (k1 : QW d mNf_classOfSlot 0 (qen 5 [.ref t, .ref r1, .int s4]) [] (hpo X mem sw o e) (qcl d mNf_findLess 40 43 (lNf_findLess_43 a2 t r1) [.int s1, .ref t] P)) : QW (d + 1) mNf_findLess 40 (lNf_findLess_40 a2 t r1) [.int s4, .ref r1, .ref t, .int s1, .ref t] (hpo X mem sw o e) P := by
  show QW (d + 1) mNf_findLess 40 [.val (.ref t), .val (.ref r1), .val (.int a2)] [.int s4, .ref r1, .ref t, .int s1, .ref t] (hpo X mem sw o e) P
  exact MW.calV (as := [.ref r1, .int s4]) (rest := [.int s1, .ref t]) hX dNf_findLess_40 eNf_classOfSlot lNf_100 iNf_classOfSlot vNf_classOfSlot rfl rfl (kNf_0 ht) rfl rfl rfl (Nat.le_of_ble_eq_true rfl) rfl k1
theorem bNf_findLess_43 {t : Nat} {r1 : Nat} {a2 : Int32} {s2 : Int32} {s1 : Int32} (hX : X.length = 13) (ht : kNf t) (hr1 : kBl r1) (k1 : QW d mNf_addLess 0 (qen 3 [.ref t, .int s1, .int s2]) [] (hpo X mem sw o e) (qcl d mNf_findLess 43 46 (lNf_findLess_46 a2 t r1) [] P)) : QW (d + 1) mNf_findLess 43 (lNf_findLess_43 a2 t r1) [.int s2, .int s1, .ref t] (hpo X mem sw o e) P := by
  show QW (d + 1) mNf_findLess 43 [.val (.ref t), .val (.ref r1), .val (.int a2)] [.int s2, .int s1, .ref t] (hpo X mem sw o e) P
  exact MW.calV (as := [.int s1, .int s2]) (rest := []) hX dNf_findLess_43 eNf_addLess lNf_141 iNf_addLess vNf_addLess rfl rfl (kNf_0 ht) rfl rfl rfl (Nat.le_of_ble_eq_true rfl) rfl k1
theorem bNf_findLess_46 {t : Nat} {r1 : Nat} {a2 : Int32} (hX : X.length = 13) (ht : kNf t) (hr1 : kBl r1) (k1 : QW d mNf_findLess 7 (lNf_findLess_7 (a2 + 1) t r1) [] (hpo X mem sw o e) P) : QW d mNf_findLess 46 (lNf_findLess_46 a2 t r1) [] (hpo X mem sw o e) P := by
  show QW d mNf_findLess 46 [.val (.ref t), .val (.ref r1), .val (.int a2)] [] (hpo X mem sw o e) P
  refine MW.iinc (c := 1) (ls' := [.val (.ref t), .val (.ref r1), .val (.int (a2 + 1))]) dNf_findLess_46 (by decide) rfl rfl ?_
  refine QW.goto (tgt := 7) dNf_findLess_49 (by decide) ?_
  exact k1
theorem dNf_addLess_0 : decode mNf_addLess.2.1 0 = .ok (.iload_n 1, 1) := by decide +kernel
theorem dNf_addLess_1 : decode mNf_addLess.2.1 1 = .ok (.iload_n 2, 1) := by decide +kernel
theorem dNf_addLess_2 : decode mNf_addLess.2.1 2 = .ok (.if_icmp .ne 11, 3) := by decide +kernel
theorem dNf_addLess_5 : decode mNf_addLess.2.1 5 = .ok (.aload_n 0, 1) := by decide +kernel
theorem dNf_addLess_6 : decode mNf_addLess.2.1 6 = .ok (.iconst 1, 1) := by decide +kernel
theorem dNf_addLess_7 : decode mNf_addLess.2.1 7 = .ok (.putfield 39, 3) := by decide +kernel
theorem dNf_addLess_10 : decode mNf_addLess.2.1 10 = .ok (.goto 80, 3) := by decide +kernel
theorem dNf_addLess_13 : decode mNf_addLess.2.1 13 = .ok (.aload_n 0, 1) := by decide +kernel
theorem dNf_addLess_14 : decode mNf_addLess.2.1 14 = .ok (.getfield 36, 3) := by decide +kernel
theorem dNf_addLess_17 : decode mNf_addLess.2.1 17 = .ok (.iload_n 1, 1) := by decide +kernel
theorem dNf_addLess_18 : decode mNf_addLess.2.1 18 = .ok (.iaload, 1) := by decide +kernel
theorem dNf_addLess_19 : decode mNf_addLess.2.1 19 = .ok (.sipush (-1000), 3) := by decide +kernel
theorem dNf_addLess_22 : decode mNf_addLess.2.1 22 = .ok (.if_icmp .eq 15, 3) := by decide +kernel
theorem dNf_addLess_25 : decode mNf_addLess.2.1 25 = .ok (.aload_n 0, 1) := by decide +kernel
theorem dNf_addLess_26 : decode mNf_addLess.2.1 26 = .ok (.getfield 36, 3) := by decide +kernel
theorem dNf_addLess_29 : decode mNf_addLess.2.1 29 = .ok (.iload_n 2, 1) := by decide +kernel
theorem dNf_addLess_30 : decode mNf_addLess.2.1 30 = .ok (.iaload, 1) := by decide +kernel
theorem dNf_addLess_31 : decode mNf_addLess.2.1 31 = .ok (.sipush (-1000), 3) := by decide +kernel
theorem dNf_addLess_34 : decode mNf_addLess.2.1 34 = .ok (.if_icmp .ne 36, 3) := by decide +kernel
theorem dNf_addLess_37 : decode mNf_addLess.2.1 37 = .ok (.aload_n 0, 1) := by decide +kernel
theorem dNf_addLess_38 : decode mNf_addLess.2.1 38 = .ok (.getfield 15, 3) := by decide +kernel
theorem dNf_addLess_41 : decode mNf_addLess.2.1 41 = .ok (.aload_n 0, 1) := by decide +kernel
theorem dNf_addLess_42 : decode mNf_addLess.2.1 42 = .ok (.getfield 138, 3) := by decide +kernel
theorem dNf_addLess_45 : decode mNf_addLess.2.1 45 = .ok (.iload_n 1, 1) := by decide +kernel
theorem dNf_addLess_46 : decode mNf_addLess.2.1 46 = .ok (.iastore, 1) := by decide +kernel
theorem dNf_addLess_47 : decode mNf_addLess.2.1 47 = .ok (.aload_n 0, 1) := by decide +kernel
theorem dNf_addLess_48 : decode mNf_addLess.2.1 48 = .ok (.getfield 18, 3) := by decide +kernel
theorem dNf_addLess_51 : decode mNf_addLess.2.1 51 = .ok (.aload_n 0, 1) := by decide +kernel
theorem dNf_addLess_52 : decode mNf_addLess.2.1 52 = .ok (.getfield 138, 3) := by decide +kernel
theorem dNf_addLess_55 : decode mNf_addLess.2.1 55 = .ok (.iload_n 2, 1) := by decide +kernel
theorem dNf_addLess_56 : decode mNf_addLess.2.1 56 = .ok (.iastore, 1) := by decide +kernel
theorem dNf_addLess_57 : decode mNf_addLess.2.1 57 = .ok (.aload_n 0, 1) := by decide +kernel
theorem dNf_addLess_58 : decode mNf_addLess.2.1 58 = .ok (.dup, 1) := by decide +kernel
theorem dNf_addLess_59 : decode mNf_addLess.2.1 59 = .ok (.getfield 138, 3) := by decide +kernel
theorem dNf_addLess_62 : decode mNf_addLess.2.1 62 = .ok (.iconst 1, 1) := by decide +kernel
theorem dNf_addLess_63 : decode mNf_addLess.2.1 63 = .ok (.iadd, 1) := by decide +kernel
theorem dNf_addLess_64 : decode mNf_addLess.2.1 64 = .ok (.putfield 138, 3) := by decide +kernel
theorem dNf_addLess_67 : decode mNf_addLess.2.1 67 = .ok (.goto 23, 3) := by decide +kernel
theorem dNf_addLess_70 : decode mNf_addLess.2.1 70 = .ok (.aload_n 0, 1) := by decide +kernel
theorem dNf_addLess_71 : decode mNf_addLess.2.1 71 = .ok (.getfield 36, 3) := by decide +kernel
theorem dNf_addLess_74 : decode mNf_addLess.2.1 74 = .ok (.iload_n 1, 1) := by decide +kernel
theorem dNf_addLess_75 : decode mNf_addLess.2.1 75 = .ok (.iaload, 1) := by decide +kernel
theorem dNf_addLess_76 : decode mNf_addLess.2.1 76 = .ok (.aload_n 0, 1) := by decide +kernel
theorem dNf_addLess_77 : decode mNf_addLess.2.1 77 = .ok (.getfield 36, 3) := by decide +kernel
theorem dNf_addLess_80 : decode mNf_addLess.2.1 80 = .ok (.iload_n 2, 1) := by decide +kernel
theorem dNf_addLess_81 : decode mNf_addLess.2.1 81 = .ok (.iaload, 1) := by decide +kernel
theorem dNf_addLess_82 : decode mNf_addLess.2.1 82 = .ok (.if_icmp .lt 8, 3) := by decide +kernel
theorem dNf_addLess_85 : decode mNf_addLess.2.1 85 = .ok (.aload_n 0, 1) := by decide +kernel
theorem dNf_addLess_86 : decode mNf_addLess.2.1 86 = .ok (.iconst 1, 1) := by decide +kernel
theorem dNf_addLess_87 : decode mNf_addLess.2.1 87 = .ok (.putfield 39, 3) := by decide +kernel
theorem dNf_addLess_90 : decode mNf_addLess.2.1 90 = .ok (.return_, 1) := by decide +kernel
def lNf_addLess_37 (a1 : Int32) (a2 : Int32) (t : Nat) : List Slot := [.val (.ref t), .val (.int a1), .val (.int a2)]
theorem bNf_addLess_0 {t : Nat} {a1 : Int32} {a2 : Int32} (hX : X.length = 13) (ht : kNf t) (h1 : (¬ a1 = a2) → inx a1 27) (k2 : (¬ a1 = a2) → ((mem (t + 9) (Int32.toNatClampNeg a1)) = (-1000)) → QW d mNf_addLess 37 (lNf_addLess_37 a1 a2 t) [] (hpo X mem sw o e) P) (h3 : (¬ a1 = a2) → (¬ (mem (t + 9) (Int32.toNatClampNeg a1)) = (-1000)) → inx a2 27) (h4 : (¬ a1 = a2) → (¬ (mem (t + 9) (Int32.toNatClampNeg a1)) = (-1000)) → (¬ (mem (t + 9) (Int32.toNatClampNeg a2)) = (-1000)) → inx a1 27) (h5 : (¬ a1 = a2) → (¬ (mem (t + 9) (Int32.toNatClampNeg a1)) = (-1000)) → (¬ (mem (t + 9) (Int32.toNatClampNeg a2)) = (-1000)) → inx a2 27) (k6 : (¬ a1 = a2) → (¬ (mem (t + 9) (Int32.toNatClampNeg a1)) = (-1000)) → (¬ (mem (t + 9) (Int32.toNatClampNeg a2)) = (-1000)) → ((mem (t + 9) (Int32.toNatClampNeg a1)) < (mem (t + 9) (Int32.toNatClampNeg a2))) → P (.inl none, (hpo X mem sw o e))) (k7 : (¬ a1 = a2) → (¬ (mem (t + 9) (Int32.toNatClampNeg a1)) = (-1000)) → (¬ (mem (t + 9) (Int32.toNatClampNeg a2)) = (-1000)) → (¬ (mem (t + 9) (Int32.toNatClampNeg a1)) < (mem (t + 9) (Int32.toNatClampNeg a2))) → P (.inl none, (hpo X (mup mem t 0 1) sw o e))) (k8 : (¬ a1 = a2) → (¬ (mem (t + 9) (Int32.toNatClampNeg a1)) = (-1000)) → ((mem (t + 9) (Int32.toNatClampNeg a2)) = (-1000)) → QW d mNf_addLess 37 (lNf_addLess_37 a1 a2 t) [] (hpo X mem sw o e) P) (k9 : (a1 = a2) → P (.inl none, (hpo X (mup mem t 0 1) sw o e))) : QW d mNf_addLess 0 (qen 3 [.ref t, .int a1, .int a2]) [] (hpo X mem sw o e) P := by
  show QW d mNf_addLess 0 [.val (.ref t), .val (.int a1), .val (.int a2)] [] (hpo X mem sw o e) P
  refine QW.iload_n dNf_addLess_0 rfl rfl ?_
  refine QW.iload_n dNf_addLess_1 rfl rfl ?_
  refine QW.icmp_ne (tgt := 13) dNf_addLess_2 (by decide) (fun z0 => ?_) (fun z0 => ?_)
  · refine QW.aload_n dNf_addLess_13 rfl rfl ?_
    refine MW.getr (r' := (t + 9)) hX dNf_addLess_14 fNf_36 (kNf_0 ht) rfl (kNf_s9 ht _) ?_
    refine QW.iload_n dNf_addLess_17 rfl rfl ?_
    refine MW.iald hX dNf_addLess_18 (kNf_9 ht) (h1 z0).1 (rep_get (h1 z0).2) ?_
    refine QW.sipush (v := (-1000)) dNf_addLess_19 (by decide) ?_
    refine QW.icmp_eq (tgt := 37) dNf_addLess_22 (by decide) (fun z1 => ?_) (fun z1 => ?_)
    · exact (k2 z0 z1)
    · refine QW.aload_n dNf_addLess_25 rfl rfl ?_
      refine MW.getr (r' := (t + 9)) hX dNf_addLess_26 fNf_36 (kNf_0 ht) rfl (kNf_s9 ht _) ?_
      refine QW.iload_n dNf_addLess_29 rfl rfl ?_
      refine MW.iald hX dNf_addLess_30 (kNf_9 ht) (h3 z0 z1).1 (rep_get (h3 z0 z1).2) ?_
      refine QW.sipush (v := (-1000)) dNf_addLess_31 (by decide) ?_
      refine QW.icmp_ne (tgt := 70) dNf_addLess_34 (by decide) (fun z2 => ?_) (fun z2 => ?_)
      · refine QW.aload_n dNf_addLess_70 rfl rfl ?_
        refine MW.getr (r' := (t + 9)) hX dNf_addLess_71 fNf_36 (kNf_0 ht) rfl (kNf_s9 ht _) ?_
        refine QW.iload_n dNf_addLess_74 rfl rfl ?_
        refine MW.iald hX dNf_addLess_75 (kNf_9 ht) (h4 z0 z1 z2).1 (rep_get (h4 z0 z1 z2).2) ?_
        refine QW.aload_n dNf_addLess_76 rfl rfl ?_
        refine MW.getr (r' := (t + 9)) hX dNf_addLess_77 fNf_36 (kNf_0 ht) rfl (kNf_s9 ht _) ?_
        refine QW.iload_n dNf_addLess_80 rfl rfl ?_
        refine MW.iald hX dNf_addLess_81 (kNf_9 ht) (h5 z0 z1 z2).1 (rep_get (h5 z0 z1 z2).2) ?_
        refine QW.icmp_lt (tgt := 90) dNf_addLess_82 (by decide) (fun z3 => ?_) (fun z3 => ?_)
        · exact QW.vret dNf_addLess_90 rfl (k6 z0 z1 z2 z3)
        · refine QW.aload_n dNf_addLess_85 rfl rfl ?_
          refine QW.iconst (v := 1) dNf_addLess_86 (by decide) ?_
          refine MW.putz hX dNf_addLess_87 fNf_39 (kNf_0 ht) rfl rfl rfl rfl ?_
          exact QW.vret dNf_addLess_90 rfl (k7 z0 z1 z2 z3)
      · exact (k8 z0 z1 z2)
  · refine QW.aload_n dNf_addLess_5 rfl rfl ?_
    refine QW.iconst (v := 1) dNf_addLess_6 (by decide) ?_
    refine MW.putz hX dNf_addLess_7 fNf_39 (kNf_0 ht) rfl rfl rfl rfl ?_
    refine QW.goto (tgt := 90) dNf_addLess_10 (by decide) ?_
    exact QW.vret dNf_addLess_90 rfl (k9 z0)
theorem bNf_addLess_37 {t : Nat} {a1 : Int32} {a2 : Int32} (hX : X.length = 13) (ht : kNf t) (h1 : inx (mem t 4) 6) (h2 : inx ((mup mem (t + 2) (Int32.toNatClampNeg (mem t 4)) a1) t 4) 6) (k3 : P (.inl none, (hpo X (mup (mup (mup mem (t + 2) (Int32.toNatClampNeg (mem t 4)) a1) (t + 3) (Int32.toNatClampNeg ((mup mem (t + 2) (Int32.toNatClampNeg (mem t 4)) a1) t 4)) a2) t 4 (((mup (mup mem (t + 2) (Int32.toNatClampNeg (mem t 4)) a1) (t + 3) (Int32.toNatClampNeg ((mup mem (t + 2) (Int32.toNatClampNeg (mem t 4)) a1) t 4)) a2) t 4) + 1)) sw o e))) : QW d mNf_addLess 37 (lNf_addLess_37 a1 a2 t) [] (hpo X mem sw o e) P := by
  show QW d mNf_addLess 37 [.val (.ref t), .val (.int a1), .val (.int a2)] [] (hpo X mem sw o e) P
  refine QW.aload_n dNf_addLess_37 rfl rfl ?_
  refine MW.getr (r' := (t + 2)) hX dNf_addLess_38 fNf_15 (kNf_0 ht) rfl (kNf_s2 ht _) ?_
  refine QW.aload_n dNf_addLess_41 rfl rfl ?_
  refine MW.geti hX dNf_addLess_42 fNf_138 (kNf_0 ht) rfl ?_
  refine QW.iload_n dNf_addLess_45 rfl rfl ?_
  refine MW.iast hX dNf_addLess_46 (kNf_2 ht) h1.1 (rep_get h1.2) ?_
  refine QW.aload_n dNf_addLess_47 rfl rfl ?_
  refine MW.getr (r' := (t + 3)) hX dNf_addLess_48 fNf_18 (kNf_0 ht) rfl (kNf_s3 ht _) ?_
  refine QW.aload_n dNf_addLess_51 rfl rfl ?_
  refine MW.geti hX dNf_addLess_52 fNf_138 (kNf_0 ht) rfl ?_
  refine QW.iload_n dNf_addLess_55 rfl rfl ?_
  refine MW.iast hX dNf_addLess_56 (kNf_3 ht) h2.1 (rep_get h2.2) ?_
  refine QW.aload_n dNf_addLess_57 rfl rfl ?_
  refine QW.dup dNf_addLess_58 rfl ?_
  refine MW.geti hX dNf_addLess_59 fNf_138 (kNf_0 ht) rfl ?_
  refine QW.iconst (v := 1) dNf_addLess_62 (by decide) ?_
  refine QW.iadd dNf_addLess_63 ?_
  refine MW.puti hX dNf_addLess_64 fNf_138 (kNf_0 ht) rfl rfl ?_
  refine QW.goto (tgt := 90) dNf_addLess_67 (by decide) ?_
  exact QW.vret dNf_addLess_90 rfl k3
theorem dNf_findOutputs_0 : decode mNf_findOutputs.2.1 0 = .ok (.aload_n 0, 1) := by decide +kernel
theorem dNf_findOutputs_1 : decode mNf_findOutputs.2.1 1 = .ok (.aload_n 1, 1) := by decide +kernel
theorem dNf_findOutputs_2 : decode mNf_findOutputs.2.1 2 = .ok (.getfield 145, 3) := by decide +kernel
theorem dNf_findOutputs_5 : decode mNf_findOutputs.2.1 5 = .ok (.putfield 148, 3) := by decide +kernel
theorem dNf_findOutputs_8 : decode mNf_findOutputs.2.1 8 = .ok (.iconst 0, 1) := by decide +kernel
theorem dNf_findOutputs_9 : decode mNf_findOutputs.2.1 9 = .ok (.istore_n 2, 1) := by decide +kernel
theorem dNf_findOutputs_10 : decode mNf_findOutputs.2.1 10 = .ok (.iload_n 2, 1) := by decide +kernel
theorem dNf_findOutputs_11 : decode mNf_findOutputs.2.1 11 = .ok (.aload_n 0, 1) := by decide +kernel
theorem dNf_findOutputs_12 : decode mNf_findOutputs.2.1 12 = .ok (.getfield 148, 3) := by decide +kernel
theorem dNf_findOutputs_15 : decode mNf_findOutputs.2.1 15 = .ok (.if_icmp .ge 21, 3) := by decide +kernel
theorem dNf_findOutputs_18 : decode mNf_findOutputs.2.1 18 = .ok (.aload_n 0, 1) := by decide +kernel
theorem dNf_findOutputs_19 : decode mNf_findOutputs.2.1 19 = .ok (.getfield 9, 3) := by decide +kernel
theorem dNf_findOutputs_22 : decode mNf_findOutputs.2.1 22 = .ok (.iload_n 2, 1) := by decide +kernel
theorem dNf_findOutputs_23 : decode mNf_findOutputs.2.1 23 = .ok (.aload_n 0, 1) := by decide +kernel
theorem dNf_findOutputs_24 : decode mNf_findOutputs.2.1 24 = .ok (.aload_n 1, 1) := by decide +kernel
theorem dNf_findOutputs_25 : decode mNf_findOutputs.2.1 25 = .ok (.iload_n 2, 1) := by decide +kernel
theorem dNf_findOutputs_26 : decode mNf_findOutputs.2.1 26 = .ok (.invokevirtual 100, 3) := by decide +kernel
theorem dNf_findOutputs_29 : decode mNf_findOutputs.2.1 29 = .ok (.iastore, 1) := by decide +kernel
theorem dNf_findOutputs_30 : decode mNf_findOutputs.2.1 30 = .ok (.iinc 2 1, 3) := by decide +kernel
theorem dNf_findOutputs_33 : decode mNf_findOutputs.2.1 33 = .ok (.goto (-23), 3) := by decide +kernel
theorem dNf_findOutputs_36 : decode mNf_findOutputs.2.1 36 = .ok (.return_, 1) := by decide +kernel
def lNf_findOutputs_10 (a2 : Int32) (t : Nat) (r1 : Nat) : List Slot := [.val (.ref t), .val (.ref r1), .val (.int a2)]
def lNf_findOutputs_29 (a2 : Int32) (t : Nat) (r1 : Nat) : List Slot := [.val (.ref t), .val (.ref r1), .val (.int a2)]
theorem bNf_findOutputs_0 {t : Nat} {r1 : Nat} (hX : X.length = 13) (ht : kNf t) (hr1 : kBl r1) (k1 : QW d mNf_findOutputs 10 (lNf_findOutputs_10 0 t r1) [] (hpo X (mup mem t 2 (mem r1 1)) sw o e) P) : QW d mNf_findOutputs 0 (qen 3 [.ref t, .ref r1]) [] (hpo X mem sw o e) P := by
  show QW d mNf_findOutputs 0 [.val (.ref t), .val (.ref r1), .unset] [] (hpo X mem sw o e) P
  refine QW.aload_n dNf_findOutputs_0 rfl rfl ?_
  refine QW.aload_n dNf_findOutputs_1 rfl rfl ?_
  refine MW.geti hX dNf_findOutputs_2 fNf_145 (kBl_0 hr1) rfl ?_
  refine MW.puti hX dNf_findOutputs_5 fNf_148 (kNf_0 ht) rfl rfl ?_
  refine QW.iconst (v := 0) dNf_findOutputs_8 (by decide) ?_
  refine QW.istore_n (ls' := [.val (.ref t), .val (.ref r1), .val (.int 0)]) dNf_findOutputs_9 rfl rfl ?_
  exact k1
theorem bNf_findOutputs_10 {t : Nat} {r1 : Nat} {a2 : Int32} (hX : X.length = 13) (ht : kNf t) (hr1 : kBl r1) (k1 : ((mem t 2) ≤ a2) → P (.inl none, (hpo X mem sw o e))) (k2 : (¬ (mem t 2) ≤ a2) → QW d mNf_classOfSlot 0 (qen 5 [.ref t, .ref r1, .int a2]) [] (hpo X mem sw o e) (qcl d mNf_findOutputs 26 29 (lNf_findOutputs_29 a2 t r1) [.int a2, .ref (t + 1)] P)) : QW (d + 1) mNf_findOutputs 10 (lNf_findOutputs_10 a2 t r1) [] (hpo X mem sw o e) P := by
  show QW (d + 1) mNf_findOutputs 10 [.val (.ref t), .val (.ref r1), .val (.int a2)] [] (hpo X mem sw o e) P
  refine QW.iload_n dNf_findOutputs_10 rfl rfl ?_
  refine QW.aload_n dNf_findOutputs_11 rfl rfl ?_
  refine MW.geti hX dNf_findOutputs_12 fNf_148 (kNf_0 ht) rfl ?_
  refine QW.icmp_ge (tgt := 36) dNf_findOutputs_15 (by decide) (fun z0 => ?_) (fun z0 => ?_)
  · exact QW.vret dNf_findOutputs_36 rfl (k1 z0)
  · refine QW.aload_n dNf_findOutputs_18 rfl rfl ?_
    refine MW.getr (r' := (t + 1)) hX dNf_findOutputs_19 fNf_9 (kNf_0 ht) rfl (kNf_s1 ht _) ?_
    refine QW.iload_n dNf_findOutputs_22 rfl rfl ?_
    refine QW.aload_n dNf_findOutputs_23 rfl rfl ?_
    refine QW.aload_n dNf_findOutputs_24 rfl rfl ?_
    refine QW.iload_n dNf_findOutputs_25 rfl rfl ?_
    exact MW.calV (as := [.ref r1, .int a2]) (rest := [.int a2, .ref (t + 1)]) hX dNf_findOutputs_26 eNf_classOfSlot lNf_100 iNf_classOfSlot vNf_classOfSlot rfl rfl (kNf_0 ht) rfl rfl rfl (Nat.le_of_ble_eq_true rfl) rfl (k2 z0)
theorem bNf_findOutputs_29 {t : Nat} {r1 : Nat} {a2 : Int32} {s2 : Int32} {s1 : Int32} (hX : X.length = 13) (ht : kNf t) (hr1 : kBl r1) (h1 : inx s1 3) (k2 : QW d mNf_findOutputs 10 (lNf_findOutputs_10 (a2 + 1) t r1) [] (hpo X (mup mem (t + 1) (Int32.toNatClampNeg s1) s2) sw o e) P) : QW d mNf_findOutputs 29 (lNf_findOutputs_29 a2 t r1) [.int s2, .int s1, .ref (t + 1)] (hpo X mem sw o e) P := by
  show QW d mNf_findOutputs 29 [.val (.ref t), .val (.ref r1), .val (.int a2)] [.int s2, .int s1, .ref (t + 1)] (hpo X mem sw o e) P
  refine MW.iast hX dNf_findOutputs_29 (kNf_1 ht) h1.1 (rep_get h1.2) ?_
  refine MW.iinc (c := 1) (ls' := [.val (.ref t), .val (.ref r1), .val (.int (a2 + 1))]) dNf_findOutputs_30 (by decide) rfl rfl ?_
  refine QW.goto (tgt := 10) dNf_findOutputs_33 (by decide) ?_
  exact k2
theorem dNf_findLeft_0 : decode mNf_findLeft.2.1 0 = .ok (.aload_n 0, 1) := by decide +kernel
theorem dNf_findLeft_1 : decode mNf_findLeft.2.1 1 = .ok (.iconst 0, 1) := by decide +kernel
theorem dNf_findLeft_2 : decode mNf_findLeft.2.1 2 = .ok (.putfield 149, 3) := by decide +kernel
theorem dNf_findLeft_5 : decode mNf_findLeft.2.1 5 = .ok (.iconst 0, 1) := by decide +kernel
theorem dNf_findLeft_6 : decode mNf_findLeft.2.1 6 = .ok (.istore_n 3, 1) := by decide +kernel
theorem dNf_findLeft_7 : decode mNf_findLeft.2.1 7 = .ok (.iload_n 3, 1) := by decide +kernel
theorem dNf_findLeft_8 : decode mNf_findLeft.2.1 8 = .ok (.aload_n 1, 1) := by decide +kernel
theorem dNf_findLeft_9 : decode mNf_findLeft.2.1 9 = .ok (.getfield 111, 3) := by decide +kernel
theorem dNf_findLeft_12 : decode mNf_findLeft.2.1 12 = .ok (.if_icmp .ge 77, 3) := by decide +kernel
theorem dNf_findLeft_15 : decode mNf_findLeft.2.1 15 = .ok (.aload_n 0, 1) := by decide +kernel
theorem dNf_findLeft_16 : decode mNf_findLeft.2.1 16 = .ok (.iload_n 3, 1) := by decide +kernel
theorem dNf_findLeft_17 : decode mNf_findLeft.2.1 17 = .ok (.aload_n 1, 1) := by decide +kernel
theorem dNf_findLeft_18 : decode mNf_findLeft.2.1 18 = .ok (.aload_n 2, 1) := by decide +kernel
theorem dNf_findLeft_19 : decode mNf_findLeft.2.1 19 = .ok (.invokevirtual 152, 3) := by decide +kernel
theorem dNf_findLeft_22 : decode mNf_findLeft.2.1 22 = .ok (.ifCond .ne 61, 3) := by decide +kernel
theorem dNf_findLeft_25 : decode mNf_findLeft.2.1 25 = .ok (.aload_n 0, 1) := by decide +kernel
theorem dNf_findLeft_26 : decode mNf_findLeft.2.1 26 = .ok (.getfield 21, 3) := by decide +kernel
theorem dNf_findLeft_29 : decode mNf_findLeft.2.1 29 = .ok (.aload_n 0, 1) := by decide +kernel
theorem dNf_findLeft_30 : decode mNf_findLeft.2.1 30 = .ok (.getfield 149, 3) := by decide +kernel
theorem dNf_findLeft_33 : decode mNf_findLeft.2.1 33 = .ok (.iload_n 3, 1) := by decide +kernel
theorem dNf_findLeft_34 : decode mNf_findLeft.2.1 34 = .ok (.iastore, 1) := by decide +kernel
theorem dNf_findLeft_35 : decode mNf_findLeft.2.1 35 = .ok (.aload_n 0, 1) := by decide +kernel
theorem dNf_findLeft_36 : decode mNf_findLeft.2.1 36 = .ok (.getfield 24, 3) := by decide +kernel
theorem dNf_findLeft_39 : decode mNf_findLeft.2.1 39 = .ok (.aload_n 0, 1) := by decide +kernel
theorem dNf_findLeft_40 : decode mNf_findLeft.2.1 40 = .ok (.getfield 149, 3) := by decide +kernel
theorem dNf_findLeft_43 : decode mNf_findLeft.2.1 43 = .ok (.aload_n 1, 1) := by decide +kernel
theorem dNf_findLeft_44 : decode mNf_findLeft.2.1 44 = .ok (.getfield 121, 3) := by decide +kernel
theorem dNf_findLeft_47 : decode mNf_findLeft.2.1 47 = .ok (.iload_n 3, 1) := by decide +kernel
theorem dNf_findLeft_48 : decode mNf_findLeft.2.1 48 = .ok (.iaload, 1) := by decide +kernel
theorem dNf_findLeft_49 : decode mNf_findLeft.2.1 49 = .ok (.iastore, 1) := by decide +kernel
theorem dNf_findLeft_50 : decode mNf_findLeft.2.1 50 = .ok (.aload_n 0, 1) := by decide +kernel
theorem dNf_findLeft_51 : decode mNf_findLeft.2.1 51 = .ok (.getfield 27, 3) := by decide +kernel
theorem dNf_findLeft_54 : decode mNf_findLeft.2.1 54 = .ok (.aload_n 0, 1) := by decide +kernel
theorem dNf_findLeft_55 : decode mNf_findLeft.2.1 55 = .ok (.getfield 149, 3) := by decide +kernel
theorem dNf_findLeft_58 : decode mNf_findLeft.2.1 58 = .ok (.aload_n 2, 1) := by decide +kernel
theorem dNf_findLeft_59 : decode mNf_findLeft.2.1 59 = .ok (.getfield 124, 3) := by decide +kernel
theorem dNf_findLeft_62 : decode mNf_findLeft.2.1 62 = .ok (.aload_n 1, 1) := by decide +kernel
theorem dNf_findLeft_63 : decode mNf_findLeft.2.1 63 = .ok (.getfield 121, 3) := by decide +kernel
theorem dNf_findLeft_66 : decode mNf_findLeft.2.1 66 = .ok (.iload_n 3, 1) := by decide +kernel
theorem dNf_findLeft_67 : decode mNf_findLeft.2.1 67 = .ok (.iaload, 1) := by decide +kernel
theorem dNf_findLeft_68 : decode mNf_findLeft.2.1 68 = .ok (.aaload, 1) := by decide +kernel
theorem dNf_findLeft_69 : decode mNf_findLeft.2.1 69 = .ok (.getfield 130, 3) := by decide +kernel
theorem dNf_findLeft_72 : decode mNf_findLeft.2.1 72 = .ok (.iastore, 1) := by decide +kernel
theorem dNf_findLeft_73 : decode mNf_findLeft.2.1 73 = .ok (.aload_n 0, 1) := by decide +kernel
theorem dNf_findLeft_74 : decode mNf_findLeft.2.1 74 = .ok (.dup, 1) := by decide +kernel
theorem dNf_findLeft_75 : decode mNf_findLeft.2.1 75 = .ok (.getfield 149, 3) := by decide +kernel
theorem dNf_findLeft_78 : decode mNf_findLeft.2.1 78 = .ok (.iconst 1, 1) := by decide +kernel
theorem dNf_findLeft_79 : decode mNf_findLeft.2.1 79 = .ok (.iadd, 1) := by decide +kernel
theorem dNf_findLeft_80 : decode mNf_findLeft.2.1 80 = .ok (.putfield 149, 3) := by decide +kernel
theorem dNf_findLeft_83 : decode mNf_findLeft.2.1 83 = .ok (.iinc 3 1, 3) := by decide +kernel
theorem dNf_findLeft_86 : decode mNf_findLeft.2.1 86 = .ok (.goto (-79), 3) := by decide +kernel
theorem dNf_findLeft_89 : decode mNf_findLeft.2.1 89 = .ok (.return_, 1) := by decide +kernel
def lNf_findLeft_7 (a3 : Int32) (t : Nat) (r1 : Nat) : List Slot := [.val (.ref t), .val (.ref r1), .val (.ref 14), .val (.int a3)]
def lNf_findLeft_22 (a3 : Int32) (t : Nat) (r1 : Nat) : List Slot := [.val (.ref t), .val (.ref r1), .val (.ref 14), .val (.int a3)]
theorem bNf_findLeft_0 {t : Nat} {r1 : Nat} (hX : X.length = 13) (ht : kNf t) (hr1 : kBl r1) (k1 : QW d mNf_findLeft 7 (lNf_findLeft_7 0 t r1) [] (hpo X (mup mem t 7 0) sw o e) P) : QW d mNf_findLeft 0 (qen 4 [.ref t, .ref r1, .ref 14]) [] (hpo X mem sw o e) P := by
  show QW d mNf_findLeft 0 [.val (.ref t), .val (.ref r1), .val (.ref 14), .unset] [] (hpo X mem sw o e) P
  refine QW.aload_n dNf_findLeft_0 rfl rfl ?_
  refine QW.iconst (v := 0) dNf_findLeft_1 (by decide) ?_
  refine MW.puti hX dNf_findLeft_2 fNf_149 (kNf_0 ht) rfl rfl ?_
  refine QW.iconst (v := 0) dNf_findLeft_5 (by decide) ?_
  refine QW.istore_n (ls' := [.val (.ref t), .val (.ref r1), .val (.ref 14), .val (.int 0)]) dNf_findLeft_6 rfl rfl ?_
  exact k1
theorem bNf_findLeft_7 {t : Nat} {r1 : Nat} {a3 : Int32} (hX : X.length = 13) (ht : kNf t) (hr1 : kBl r1) (k1 : ((mem r1 2) ≤ a3) → P (.inl none, (hpo X mem sw o e))) (k2 : (¬ (mem r1 2) ≤ a3) → QW d mNf_isOneWithLeft 0 (qen 5 [.ref t, .int a3, .ref r1, .ref 14]) [] (hpo X mem sw o e) (qcl d mNf_findLeft 19 22 (lNf_findLeft_22 a3 t r1) [] P)) : QW (d + 1) mNf_findLeft 7 (lNf_findLeft_7 a3 t r1) [] (hpo X mem sw o e) P := by
  show QW (d + 1) mNf_findLeft 7 [.val (.ref t), .val (.ref r1), .val (.ref 14), .val (.int a3)] [] (hpo X mem sw o e) P
  refine QW.iload_n dNf_findLeft_7 rfl rfl ?_
  refine QW.aload_n dNf_findLeft_8 rfl rfl ?_
  refine MW.geti hX dNf_findLeft_9 fNf_111 (kBl_0 hr1) rfl ?_
  refine QW.icmp_ge (tgt := 89) dNf_findLeft_12 (by decide) (fun z0 => ?_) (fun z0 => ?_)
  · exact QW.vret dNf_findLeft_89 rfl (k1 z0)
  · refine QW.aload_n dNf_findLeft_15 rfl rfl ?_
    refine QW.iload_n dNf_findLeft_16 rfl rfl ?_
    refine QW.aload_n dNf_findLeft_17 rfl rfl ?_
    refine QW.aload_n dNf_findLeft_18 rfl rfl ?_
    exact MW.calV (as := [.int a3, .ref r1, .ref 14]) (rest := []) hX dNf_findLeft_19 eNf_isOneWithLeft lNf_152 iNf_isOneWithLeft vNf_isOneWithLeft rfl rfl (kNf_0 ht) rfl rfl rfl (Nat.le_of_ble_eq_true rfl) rfl (k2 z0)
theorem bNf_findLeft_22 {t : Nat} {r1 : Nat} {a3 : Int32} {s0 : Int32} (hX : X.length = 13) (ht : kNf t) (hr1 : kBl r1) (k1 : (¬ s0 = 0) → QW d mNf_findLeft 7 (lNf_findLeft_7 (a3 + 1) t r1) [] (hpo X mem sw o e) P) (h2 : (s0 = 0) → inx (mem t 7) 4) (h3 : (s0 = 0) → inx a3 4) (h4 : (s0 = 0) → inx ((mup mem (t + 4) (Int32.toNatClampNeg (mem t 7)) a3) t 7) 4) (h5 : (s0 = 0) → inx a3 4) (h6 : (s0 = 0) → inx ((mup (mup mem (t + 4) (Int32.toNatClampNeg (mem t 7)) a3) (t + 5) (Int32.toNatClampNeg ((mup mem (t + 4) (Int32.toNatClampNeg (mem t 7)) a3) t 7)) ((mup mem (t + 4) (Int32.toNatClampNeg (mem t 7)) a3) (r1 + 1) (Int32.toNatClampNeg a3))) (r1 + 1) (Int32.toNatClampNeg a3)) 4) (h7 : (s0 = 0) → inx ((mup (mup mem (t + 4) (Int32.toNatClampNeg (mem t 7)) a3) (t + 5) (Int32.toNatClampNeg ((mup mem (t + 4) (Int32.toNatClampNeg (mem t 7)) a3) t 7)) ((mup mem (t + 4) (Int32.toNatClampNeg (mem t 7)) a3) (r1 + 1) (Int32.toNatClampNeg a3))) t 7) 4) (k8 : (s0 = 0) → QW d mNf_findLeft 7 (lNf_findLeft_7 (a3 + 1) t r1) [] (hpo X (mup (mup (mup (mup mem (t + 4) (Int32.toNatClampNeg (mem t 7)) a3) (t + 5) (Int32.toNatClampNeg ((mup mem (t + 4) (Int32.toNatClampNeg (mem t 7)) a3) t 7)) ((mup mem (t + 4) (Int32.toNatClampNeg (mem t 7)) a3) (r1 + 1) (Int32.toNatClampNeg a3))) (t + 6) (Int32.toNatClampNeg ((mup (mup mem (t + 4) (Int32.toNatClampNeg (mem t 7)) a3) (t + 5) (Int32.toNatClampNeg ((mup mem (t + 4) (Int32.toNatClampNeg (mem t 7)) a3) t 7)) ((mup mem (t + 4) (Int32.toNatClampNeg (mem t 7)) a3) (r1 + 1) (Int32.toNatClampNeg a3))) t 7)) ((mup (mup mem (t + 4) (Int32.toNatClampNeg (mem t 7)) a3) (t + 5) (Int32.toNatClampNeg ((mup mem (t + 4) (Int32.toNatClampNeg (mem t 7)) a3) t 7)) ((mup mem (t + 4) (Int32.toNatClampNeg (mem t 7)) a3) (r1 + 1) (Int32.toNatClampNeg a3))) (16 + 3 * (Int32.toNatClampNeg ((mup (mup mem (t + 4) (Int32.toNatClampNeg (mem t 7)) a3) (t + 5) (Int32.toNatClampNeg ((mup mem (t + 4) (Int32.toNatClampNeg (mem t 7)) a3) t 7)) ((mup mem (t + 4) (Int32.toNatClampNeg (mem t 7)) a3) (r1 + 1) (Int32.toNatClampNeg a3))) (r1 + 1) (Int32.toNatClampNeg a3)))) 0)) t 7 (((mup (mup (mup mem (t + 4) (Int32.toNatClampNeg (mem t 7)) a3) (t + 5) (Int32.toNatClampNeg ((mup mem (t + 4) (Int32.toNatClampNeg (mem t 7)) a3) t 7)) ((mup mem (t + 4) (Int32.toNatClampNeg (mem t 7)) a3) (r1 + 1) (Int32.toNatClampNeg a3))) (t + 6) (Int32.toNatClampNeg ((mup (mup mem (t + 4) (Int32.toNatClampNeg (mem t 7)) a3) (t + 5) (Int32.toNatClampNeg ((mup mem (t + 4) (Int32.toNatClampNeg (mem t 7)) a3) t 7)) ((mup mem (t + 4) (Int32.toNatClampNeg (mem t 7)) a3) (r1 + 1) (Int32.toNatClampNeg a3))) t 7)) ((mup (mup mem (t + 4) (Int32.toNatClampNeg (mem t 7)) a3) (t + 5) (Int32.toNatClampNeg ((mup mem (t + 4) (Int32.toNatClampNeg (mem t 7)) a3) t 7)) ((mup mem (t + 4) (Int32.toNatClampNeg (mem t 7)) a3) (r1 + 1) (Int32.toNatClampNeg a3))) (16 + 3 * (Int32.toNatClampNeg ((mup (mup mem (t + 4) (Int32.toNatClampNeg (mem t 7)) a3) (t + 5) (Int32.toNatClampNeg ((mup mem (t + 4) (Int32.toNatClampNeg (mem t 7)) a3) t 7)) ((mup mem (t + 4) (Int32.toNatClampNeg (mem t 7)) a3) (r1 + 1) (Int32.toNatClampNeg a3))) (r1 + 1) (Int32.toNatClampNeg a3)))) 0)) t 7) + 1)) sw o e) P) : QW d mNf_findLeft 22 (lNf_findLeft_22 a3 t r1) [.int s0] (hpo X mem sw o e) P := by
  show QW d mNf_findLeft 22 [.val (.ref t), .val (.ref r1), .val (.ref 14), .val (.int a3)] [.int s0] (hpo X mem sw o e) P
  refine QW.if_ne (tgt := 83) dNf_findLeft_22 (by decide) (fun z0 => ?_) (fun z0 => ?_)
  · refine MW.iinc (c := 1) (ls' := [.val (.ref t), .val (.ref r1), .val (.ref 14), .val (.int (a3 + 1))]) dNf_findLeft_83 (by decide) rfl rfl ?_
    refine QW.goto (tgt := 7) dNf_findLeft_86 (by decide) ?_
    exact (k1 z0)
  · refine QW.aload_n dNf_findLeft_25 rfl rfl ?_
    refine MW.getr (r' := (t + 4)) hX dNf_findLeft_26 fNf_21 (kNf_0 ht) rfl (kNf_s4 ht _) ?_
    refine QW.aload_n dNf_findLeft_29 rfl rfl ?_
    refine MW.geti hX dNf_findLeft_30 fNf_149 (kNf_0 ht) rfl ?_
    refine QW.iload_n dNf_findLeft_33 rfl rfl ?_
    refine MW.iast hX dNf_findLeft_34 (kNf_4 ht) (h2 z0).1 (rep_get (h2 z0).2) ?_
    refine QW.aload_n dNf_findLeft_35 rfl rfl ?_
    refine MW.getr (r' := (t + 5)) hX dNf_findLeft_36 fNf_24 (kNf_0 ht) rfl (kNf_s5 ht _) ?_
    refine QW.aload_n dNf_findLeft_39 rfl rfl ?_
    refine MW.geti hX dNf_findLeft_40 fNf_149 (kNf_0 ht) rfl ?_
    refine QW.aload_n dNf_findLeft_43 rfl rfl ?_
    refine MW.getr (r' := (r1 + 1)) hX dNf_findLeft_44 fNf_121 (kBl_0 hr1) rfl (kBl_s1 hr1 _) ?_
    refine QW.iload_n dNf_findLeft_47 rfl rfl ?_
    refine MW.iald hX dNf_findLeft_48 (kBl_1 hr1) (h3 z0).1 (rep_get (h3 z0).2) ?_
    refine MW.iast hX dNf_findLeft_49 (kNf_5 ht) (h4 z0).1 (rep_get (h4 z0).2) ?_
    refine QW.aload_n dNf_findLeft_50 rfl rfl ?_
    refine MW.getr (r' := (t + 6)) hX dNf_findLeft_51 fNf_27 (kNf_0 ht) rfl (kNf_s6 ht _) ?_
    refine QW.aload_n dNf_findLeft_54 rfl rfl ?_
    refine MW.geti hX dNf_findLeft_55 fNf_149 (kNf_0 ht) rfl ?_
    refine QW.aload_n dNf_findLeft_58 rfl rfl ?_
    refine MW.getr (r' := 15) hX dNf_findLeft_59 fNf_124 rfl rfl (by cases sw <;> rfl) ?_
    refine QW.aload_n dNf_findLeft_62 rfl rfl ?_
    refine MW.getr (r' := (r1 + 1)) hX dNf_findLeft_63 fNf_121 (kBl_0 hr1) rfl (kBl_s1 hr1 _) ?_
    refine QW.iload_n dNf_findLeft_66 rfl rfl ?_
    refine MW.iald hX dNf_findLeft_67 (kBl_1 hr1) (h5 z0).1 (rep_get (h5 z0).2) ?_
    refine MW.aald (r' := (16 + 3 * (Int32.toNatClampNeg ((mup (mup mem (t + 4) (Int32.toNatClampNeg (mem t 7)) a3) (t + 5) (Int32.toNatClampNeg ((mup mem (t + 4) (Int32.toNatClampNeg (mem t 7)) a3) t 7)) ((mup mem (t + 4) (Int32.toNatClampNeg (mem t 7)) a3) (r1 + 1) (Int32.toNatClampNeg a3))) (r1 + 1) (Int32.toNatClampNeg a3))))) hX dNf_findLeft_68 rfl rfl (Nat.le_of_ble_eq_true rfl) (h6 z0).1 (el_tab (h6 z0).2) (sw_tab (h6 z0).2) ?_
    refine MW.geti hX dNf_findLeft_69 fNf_130 (kTab_0 (kTab_at (h6 z0).2)) rfl ?_
    refine MW.iast hX dNf_findLeft_72 (kNf_6 ht) (h7 z0).1 (rep_get (h7 z0).2) ?_
    refine QW.aload_n dNf_findLeft_73 rfl rfl ?_
    refine QW.dup dNf_findLeft_74 rfl ?_
    refine MW.geti hX dNf_findLeft_75 fNf_149 (kNf_0 ht) rfl ?_
    refine QW.iconst (v := 1) dNf_findLeft_78 (by decide) ?_
    refine QW.iadd dNf_findLeft_79 ?_
    refine MW.puti hX dNf_findLeft_80 fNf_149 (kNf_0 ht) rfl rfl ?_
    refine MW.iinc (c := 1) (ls' := [.val (.ref t), .val (.ref r1), .val (.ref 14), .val (.int (a3 + 1))]) dNf_findLeft_83 (by decide) rfl rfl ?_
    refine QW.goto (tgt := 7) dNf_findLeft_86 (by decide) ?_
    exact (k8 z0)
theorem dNf_isOneWithLeft_0 : decode mNf_isOneWithLeft.2.1 0 = .ok (.iconst 0, 1) := by decide +kernel
theorem dNf_isOneWithLeft_1 : decode mNf_isOneWithLeft.2.1 1 = .ok (.istore 4, 2) := by decide +kernel
theorem dNf_isOneWithLeft_3 : decode mNf_isOneWithLeft.2.1 3 = .ok (.iload 4, 2) := by decide +kernel
theorem dNf_isOneWithLeft_5 : decode mNf_isOneWithLeft.2.1 5 = .ok (.aload_n 0, 1) := by decide +kernel
theorem dNf_isOneWithLeft_6 : decode mNf_isOneWithLeft.2.1 6 = .ok (.getfield 149, 3) := by decide +kernel
theorem dNf_isOneWithLeft_9 : decode mNf_isOneWithLeft.2.1 9 = .ok (.if_icmp .ge 28, 3) := by decide +kernel
theorem dNf_isOneWithLeft_12 : decode mNf_isOneWithLeft.2.1 12 = .ok (.aload_n 0, 1) := by decide +kernel
theorem dNf_isOneWithLeft_13 : decode mNf_isOneWithLeft.2.1 13 = .ok (.aload_n 0, 1) := by decide +kernel
theorem dNf_isOneWithLeft_14 : decode mNf_isOneWithLeft.2.1 14 = .ok (.getfield 21, 3) := by decide +kernel
theorem dNf_isOneWithLeft_17 : decode mNf_isOneWithLeft.2.1 17 = .ok (.iload 4, 2) := by decide +kernel
theorem dNf_isOneWithLeft_19 : decode mNf_isOneWithLeft.2.1 19 = .ok (.iaload, 1) := by decide +kernel
theorem dNf_isOneWithLeft_20 : decode mNf_isOneWithLeft.2.1 20 = .ok (.iload_n 1, 1) := by decide +kernel
theorem dNf_isOneWithLeft_21 : decode mNf_isOneWithLeft.2.1 21 = .ok (.aload_n 2, 1) := by decide +kernel
theorem dNf_isOneWithLeft_22 : decode mNf_isOneWithLeft.2.1 22 = .ok (.aload_n 3, 1) := by decide +kernel
theorem dNf_isOneWithLeft_23 : decode mNf_isOneWithLeft.2.1 23 = .ok (.invokevirtual 114, 3) := by decide +kernel
theorem dNf_isOneWithLeft_26 : decode mNf_isOneWithLeft.2.1 26 = .ok (.ifCond .eq 5, 3) := by decide +kernel
theorem dNf_isOneWithLeft_29 : decode mNf_isOneWithLeft.2.1 29 = .ok (.iconst 1, 1) := by decide +kernel
theorem dNf_isOneWithLeft_30 : decode mNf_isOneWithLeft.2.1 30 = .ok (.ireturn, 1) := by decide +kernel
theorem dNf_isOneWithLeft_31 : decode mNf_isOneWithLeft.2.1 31 = .ok (.iinc 4 1, 3) := by decide +kernel
theorem dNf_isOneWithLeft_34 : decode mNf_isOneWithLeft.2.1 34 = .ok (.goto (-31), 3) := by decide +kernel
theorem dNf_isOneWithLeft_37 : decode mNf_isOneWithLeft.2.1 37 = .ok (.iconst 0, 1) := by decide +kernel
theorem dNf_isOneWithLeft_38 : decode mNf_isOneWithLeft.2.1 38 = .ok (.ireturn, 1) := by decide +kernel
def lNf_isOneWithLeft_3 (a1 : Int32) (a4 : Int32) (t : Nat) (r2 : Nat) : List Slot := [.val (.ref t), .val (.int a1), .val (.ref r2), .val (.ref 14), .val (.int a4)]
def lNf_isOneWithLeft_26 (a1 : Int32) (a4 : Int32) (t : Nat) (r2 : Nat) : List Slot := [.val (.ref t), .val (.int a1), .val (.ref r2), .val (.ref 14), .val (.int a4)]
theorem bNf_isOneWithLeft_0 {t : Nat} {r2 : Nat} {a1 : Int32} (hX : X.length = 13) (ht : kNf t) (hr2 : kBl r2) (k1 : QW d mNf_isOneWithLeft 3 (lNf_isOneWithLeft_3 a1 0 t r2) [] (hpo X mem sw o e) P) : QW d mNf_isOneWithLeft 0 (qen 5 [.ref t, .int a1, .ref r2, .ref 14]) [] (hpo X mem sw o e) P := by
  show QW d mNf_isOneWithLeft 0 [.val (.ref t), .val (.int a1), .val (.ref r2), .val (.ref 14), .unset] [] (hpo X mem sw o e) P
  refine QW.iconst (v := 0) dNf_isOneWithLeft_0 (by decide) ?_
  refine QW.istore (ls' := [.val (.ref t), .val (.int a1), .val (.ref r2), .val (.ref 14), .val (.int 0)]) dNf_isOneWithLeft_1 rfl ?_
  exact k1
theorem bNf_isOneWithLeft_3 {t : Nat} {r2 : Nat} {a1 : Int32} {a4 : Int32} (hX : X.length = 13) (ht : kNf t) (hr2 : kBl r2) (k1 : ((mem t 7) ≤ a4) → P (.inl (some (.int 0)), (hpo X mem sw o e))) (h2 : (¬ (mem t 7) ≤ a4) → inx a4 4) (k3 : (¬ (mem t 7) ≤ a4) → QW d mNf_areOne 0 (qen 7 [.ref t, .int (mem (t + 4) (Int32.toNatClampNeg a4)), .int a1, .ref r2, .ref 14]) [] (hpo X mem sw o e) (qcl d mNf_isOneWithLeft 23 26 (lNf_isOneWithLeft_26 a1 a4 t r2) [] P)) : QW (d + 1) mNf_isOneWithLeft 3 (lNf_isOneWithLeft_3 a1 a4 t r2) [] (hpo X mem sw o e) P := by
  show QW (d + 1) mNf_isOneWithLeft 3 [.val (.ref t), .val (.int a1), .val (.ref r2), .val (.ref 14), .val (.int a4)] [] (hpo X mem sw o e) P
  refine QW.iload dNf_isOneWithLeft_3 rfl ?_
  refine QW.aload_n dNf_isOneWithLeft_5 rfl rfl ?_
  refine MW.geti hX dNf_isOneWithLeft_6 fNf_149 (kNf_0 ht) rfl ?_
  refine QW.icmp_ge (tgt := 37) dNf_isOneWithLeft_9 (by decide) (fun z0 => ?_) (fun z0 => ?_)
  · refine QW.iconst (v := 0) dNf_isOneWithLeft_37 (by decide) ?_
    exact QW.iret dNf_isOneWithLeft_38 rfl rfl (k1 z0)
  · refine QW.aload_n dNf_isOneWithLeft_12 rfl rfl ?_
    refine QW.aload_n dNf_isOneWithLeft_13 rfl rfl ?_
    refine MW.getr (r' := (t + 4)) hX dNf_isOneWithLeft_14 fNf_21 (kNf_0 ht) rfl (kNf_s4 ht _) ?_
    refine QW.iload dNf_isOneWithLeft_17 rfl ?_
    refine MW.iald hX dNf_isOneWithLeft_19 (kNf_4 ht) (h2 z0).1 (rep_get (h2 z0).2) ?_
    refine QW.iload_n dNf_isOneWithLeft_20 rfl rfl ?_
    refine QW.aload_n dNf_isOneWithLeft_21 rfl rfl ?_
    refine QW.aload_n dNf_isOneWithLeft_22 rfl rfl ?_
    exact MW.calV (as := [.int (mem (t + 4) (Int32.toNatClampNeg a4)), .int a1, .ref r2, .ref 14]) (rest := []) hX dNf_isOneWithLeft_23 eNf_areOne lNf_114 iNf_areOne vNf_areOne rfl rfl (kNf_0 ht) rfl rfl rfl (Nat.le_of_ble_eq_true rfl) rfl (k3 z0)
theorem bNf_isOneWithLeft_26 {t : Nat} {r2 : Nat} {a1 : Int32} {a4 : Int32} {s0 : Int32} (hX : X.length = 13) (ht : kNf t) (hr2 : kBl r2) (k1 : (s0 = 0) → QW d mNf_isOneWithLeft 3 (lNf_isOneWithLeft_3 a1 (a4 + 1) t r2) [] (hpo X mem sw o e) P) (k2 : (¬ s0 = 0) → P (.inl (some (.int 1)), (hpo X mem sw o e))) : QW d mNf_isOneWithLeft 26 (lNf_isOneWithLeft_26 a1 a4 t r2) [.int s0] (hpo X mem sw o e) P := by
  show QW d mNf_isOneWithLeft 26 [.val (.ref t), .val (.int a1), .val (.ref r2), .val (.ref 14), .val (.int a4)] [.int s0] (hpo X mem sw o e) P
  refine QW.if_eq (tgt := 31) dNf_isOneWithLeft_26 (by decide) (fun z0 => ?_) (fun z0 => ?_)
  · refine MW.iinc (c := 1) (ls' := [.val (.ref t), .val (.int a1), .val (.ref r2), .val (.ref 14), .val (.int (a4 + 1))]) dNf_isOneWithLeft_31 (by decide) rfl rfl ?_
    refine QW.goto (tgt := 3) dNf_isOneWithLeft_34 (by decide) ?_
    exact (k1 z0)
  · refine QW.iconst (v := 1) dNf_isOneWithLeft_29 (by decide) ?_
    exact QW.iret dNf_isOneWithLeft_30 rfl rfl (k2 z0)
theorem dPg_exists_0 : decode mPg_exists.2.1 0 = .ok (.aload_n 1, 1) := by decide +kernel
theorem dPg_exists_1 : decode mPg_exists.2.1 1 = .ok (.getfield 19, 3) := by decide +kernel
theorem dPg_exists_4 : decode mPg_exists.2.1 4 = .ok (.aload_n 2, 1) := by decide +kernel
theorem dPg_exists_5 : decode mPg_exists.2.1 5 = .ok (.getfield 19, 3) := by decide +kernel
theorem dPg_exists_8 : decode mPg_exists.2.1 8 = .ok (.if_icmp .ne 14, 3) := by decide +kernel
theorem dPg_exists_11 : decode mPg_exists.2.1 11 = .ok (.aload_n 1, 1) := by decide +kernel
theorem dPg_exists_12 : decode mPg_exists.2.1 12 = .ok (.getfield 25, 3) := by decide +kernel
theorem dPg_exists_15 : decode mPg_exists.2.1 15 = .ok (.aload_n 2, 1) := by decide +kernel
theorem dPg_exists_16 : decode mPg_exists.2.1 16 = .ok (.getfield 25, 3) := by decide +kernel
theorem dPg_exists_19 : decode mPg_exists.2.1 19 = .ok (.if_icmp .eq 5, 3) := by decide +kernel
theorem dPg_exists_22 : decode mPg_exists.2.1 22 = .ok (.iconst 0, 1) := by decide +kernel
theorem dPg_exists_23 : decode mPg_exists.2.1 23 = .ok (.ireturn, 1) := by decide +kernel
theorem dPg_exists_24 : decode mPg_exists.2.1 24 = .ok (.aload_n 1, 1) := by decide +kernel
theorem dPg_exists_25 : decode mPg_exists.2.1 25 = .ok (.getfield 29, 3) := by decide +kernel
theorem dPg_exists_28 : decode mPg_exists.2.1 28 = .ok (.ifCond .ne 10, 3) := by decide +kernel
theorem dPg_exists_31 : decode mPg_exists.2.1 31 = .ok (.aload_n 2, 1) := by decide +kernel
theorem dPg_exists_32 : decode mPg_exists.2.1 32 = .ok (.getfield 29, 3) := by decide +kernel
theorem dPg_exists_35 : decode mPg_exists.2.1 35 = .ok (.ifCond .eq 23, 3) := by decide +kernel
theorem dPg_exists_38 : decode mPg_exists.2.1 38 = .ok (.aload_n 1, 1) := by decide +kernel
theorem dPg_exists_39 : decode mPg_exists.2.1 39 = .ok (.getfield 29, 3) := by decide +kernel
theorem dPg_exists_42 : decode mPg_exists.2.1 42 = .ok (.ifCond .eq 14, 3) := by decide +kernel
theorem dPg_exists_45 : decode mPg_exists.2.1 45 = .ok (.aload_n 2, 1) := by decide +kernel
theorem dPg_exists_46 : decode mPg_exists.2.1 46 = .ok (.getfield 29, 3) := by decide +kernel
theorem dPg_exists_49 : decode mPg_exists.2.1 49 = .ok (.ifCond .eq 7, 3) := by decide +kernel
theorem dPg_exists_52 : decode mPg_exists.2.1 52 = .ok (.iconst 1, 1) := by decide +kernel
theorem dPg_exists_53 : decode mPg_exists.2.1 53 = .ok (.goto 4, 3) := by decide +kernel
theorem dPg_exists_56 : decode mPg_exists.2.1 56 = .ok (.iconst 0, 1) := by decide +kernel
theorem dPg_exists_57 : decode mPg_exists.2.1 57 = .ok (.ireturn, 1) := by decide +kernel
theorem dPg_exists_58 : decode mPg_exists.2.1 58 = .ok (.aload_n 1, 1) := by decide +kernel
theorem dPg_exists_59 : decode mPg_exists.2.1 59 = .ok (.getfield 32, 3) := by decide +kernel
theorem dPg_exists_62 : decode mPg_exists.2.1 62 = .ok (.aload_n 2, 1) := by decide +kernel
theorem dPg_exists_63 : decode mPg_exists.2.1 63 = .ok (.getfield 32, 3) := by decide +kernel
theorem dPg_exists_66 : decode mPg_exists.2.1 66 = .ok (.if_icmp .ne 17, 3) := by decide +kernel
theorem dPg_exists_69 : decode mPg_exists.2.1 69 = .ok (.aload_n 0, 1) := by decide +kernel
theorem dPg_exists_70 : decode mPg_exists.2.1 70 = .ok (.iconst 0, 1) := by decide +kernel
theorem dPg_exists_71 : decode mPg_exists.2.1 71 = .ok (.aload_n 1, 1) := by decide +kernel
theorem dPg_exists_72 : decode mPg_exists.2.1 72 = .ok (.aload_n 2, 1) := by decide +kernel
theorem dPg_exists_73 : decode mPg_exists.2.1 73 = .ok (.invokevirtual 35, 3) := by decide +kernel
theorem dPg_exists_76 : decode mPg_exists.2.1 76 = .ok (.ifCond .eq 7, 3) := by decide +kernel
theorem dPg_exists_79 : decode mPg_exists.2.1 79 = .ok (.iconst 1, 1) := by decide +kernel
theorem dPg_exists_80 : decode mPg_exists.2.1 80 = .ok (.goto 4, 3) := by decide +kernel
theorem dPg_exists_83 : decode mPg_exists.2.1 83 = .ok (.iconst 0, 1) := by decide +kernel
theorem dPg_exists_84 : decode mPg_exists.2.1 84 = .ok (.ireturn, 1) := by decide +kernel
def lPg_exists_38 (r1 : Nat) (r2 : Nat) : List Slot := [.val (.ref 190), .val (.ref r1), .val (.ref r2)]
def lPg_exists_76 (r1 : Nat) (r2 : Nat) : List Slot := [.val (.ref 190), .val (.ref r1), .val (.ref r2)]
theorem bPg_exists_0 {r1 : Nat} {r2 : Nat} (hX : X.length = 13) (hr1 : kNf r1) (hr2 : kNf r2) (k1 : (¬ (mem r1 1) = (mem r2 1)) → P (.inl (some (.int 0)), (hpo X mem sw o e))) (k2 : ((mem r1 1) = (mem r2 1)) → ((mem r1 2) = (mem r2 2)) → (¬ (mem r1 0) = 0) → QW (d + 1) mPg_exists 38 (lPg_exists_38 r1 r2) [] (hpo X mem sw o e) P) (k3 : ((mem r1 1) = (mem r2 1)) → ((mem r1 2) = (mem r2 2)) → ((mem r1 0) = 0) → ((mem r2 0) = 0) → (¬ (mem r1 7) = (mem r2 7)) → P (.inl (some (.int 0)), (hpo X mem sw o e))) (k4 : ((mem r1 1) = (mem r2 1)) → ((mem r1 2) = (mem r2 2)) → ((mem r1 0) = 0) → ((mem r2 0) = 0) → ((mem r1 7) = (mem r2 7)) → QW d mPg_pairFrom 0 (qen 6 [.ref 190, .int 0, .ref r1, .ref r2]) [] (hpo X mem sw o e) (qcl d mPg_exists 73 76 (lPg_exists_76 r1 r2) [] P)) (k5 : ((mem r1 1) = (mem r2 1)) → ((mem r1 2) = (mem r2 2)) → ((mem r1 0) = 0) → (¬ (mem r2 0) = 0) → QW (d + 1) mPg_exists 38 (lPg_exists_38 r1 r2) [] (hpo X mem sw o e) P) (k6 : ((mem r1 1) = (mem r2 1)) → (¬ (mem r1 2) = (mem r2 2)) → P (.inl (some (.int 0)), (hpo X mem sw o e))) : QW (d + 1) mPg_exists 0 (qen 3 [.ref 190, .ref r1, .ref r2]) [] (hpo X mem sw o e) P := by
  show QW (d + 1) mPg_exists 0 [.val (.ref 190), .val (.ref r1), .val (.ref r2)] [] (hpo X mem sw o e) P
  refine QW.aload_n dPg_exists_0 rfl rfl ?_
  refine MW.geti hX dPg_exists_1 fPg_19 (kNf_0 hr1) rfl ?_
  refine QW.aload_n dPg_exists_4 rfl rfl ?_
  refine MW.geti hX dPg_exists_5 fPg_19 (kNf_0 hr2) rfl ?_
  refine QW.icmp_ne (tgt := 22) dPg_exists_8 (by decide) (fun z0 => ?_) (fun z0 => ?_)
  · refine QW.iconst (v := 0) dPg_exists_22 (by decide) ?_
    exact QW.iret dPg_exists_23 rfl rfl (k1 z0)
  · refine QW.aload_n dPg_exists_11 rfl rfl ?_
    refine MW.geti hX dPg_exists_12 fPg_25 (kNf_0 hr1) rfl ?_
    refine QW.aload_n dPg_exists_15 rfl rfl ?_
    refine MW.geti hX dPg_exists_16 fPg_25 (kNf_0 hr2) rfl ?_
    refine QW.icmp_eq (tgt := 24) dPg_exists_19 (by decide) (fun z1 => ?_) (fun z1 => ?_)
    · refine QW.aload_n dPg_exists_24 rfl rfl ?_
      refine MW.geti hX dPg_exists_25 fPg_29 (kNf_0 hr1) rfl ?_
      refine QW.if_ne (tgt := 38) dPg_exists_28 (by decide) (fun z2 => ?_) (fun z2 => ?_)
      · exact (k2 z0 z1 z2)
      · refine QW.aload_n dPg_exists_31 rfl rfl ?_
        refine MW.geti hX dPg_exists_32 fPg_29 (kNf_0 hr2) rfl ?_
        refine QW.if_eq (tgt := 58) dPg_exists_35 (by decide) (fun z3 => ?_) (fun z3 => ?_)
        · refine QW.aload_n dPg_exists_58 rfl rfl ?_
          refine MW.geti hX dPg_exists_59 fPg_32 (kNf_0 hr1) rfl ?_
          refine QW.aload_n dPg_exists_62 rfl rfl ?_
          refine MW.geti hX dPg_exists_63 fPg_32 (kNf_0 hr2) rfl ?_
          refine QW.icmp_ne (tgt := 83) dPg_exists_66 (by decide) (fun z4 => ?_) (fun z4 => ?_)
          · refine QW.iconst (v := 0) dPg_exists_83 (by decide) ?_
            exact QW.iret dPg_exists_84 rfl rfl (k3 z0 z1 z2 z3 z4)
          · refine QW.aload_n dPg_exists_69 rfl rfl ?_
            refine QW.iconst (v := 0) dPg_exists_70 (by decide) ?_
            refine QW.aload_n dPg_exists_71 rfl rfl ?_
            refine QW.aload_n dPg_exists_72 rfl rfl ?_
            exact MW.calV (as := [.int 0, .ref r1, .ref r2]) (rest := []) hX dPg_exists_73 ePg_pairFrom lPg_35 iPg_pairFrom vPg_pairFrom rfl rfl rfl rfl rfl rfl (Nat.le_of_ble_eq_true rfl) rfl (k4 z0 z1 z2 z3 z4)
        · exact (k5 z0 z1 z2 z3)
    · refine QW.iconst (v := 0) dPg_exists_22 (by decide) ?_
      exact QW.iret dPg_exists_23 rfl rfl (k6 z0 z1)
theorem bPg_exists_38 {r1 : Nat} {r2 : Nat} (hX : X.length = 13) (hr1 : kNf r1) (hr2 : kNf r2) (k1 : ((mem r1 0) = 0) → P (.inl (some (.int 0)), (hpo X mem sw o e))) (k2 : (¬ (mem r1 0) = 0) → ((mem r2 0) = 0) → P (.inl (some (.int 0)), (hpo X mem sw o e))) (k3 : (¬ (mem r1 0) = 0) → (¬ (mem r2 0) = 0) → P (.inl (some (.int 1)), (hpo X mem sw o e))) : QW d mPg_exists 38 (lPg_exists_38 r1 r2) [] (hpo X mem sw o e) P := by
  show QW d mPg_exists 38 [.val (.ref 190), .val (.ref r1), .val (.ref r2)] [] (hpo X mem sw o e) P
  refine QW.aload_n dPg_exists_38 rfl rfl ?_
  refine MW.geti hX dPg_exists_39 fPg_29 (kNf_0 hr1) rfl ?_
  refine QW.if_eq (tgt := 56) dPg_exists_42 (by decide) (fun z0 => ?_) (fun z0 => ?_)
  · refine QW.iconst (v := 0) dPg_exists_56 (by decide) ?_
    exact QW.iret dPg_exists_57 rfl rfl (k1 z0)
  · refine QW.aload_n dPg_exists_45 rfl rfl ?_
    refine MW.geti hX dPg_exists_46 fPg_29 (kNf_0 hr2) rfl ?_
    refine QW.if_eq (tgt := 56) dPg_exists_49 (by decide) (fun z1 => ?_) (fun z1 => ?_)
    · refine QW.iconst (v := 0) dPg_exists_56 (by decide) ?_
      exact QW.iret dPg_exists_57 rfl rfl (k2 z0 z1)
    · refine QW.iconst (v := 1) dPg_exists_52 (by decide) ?_
      refine QW.goto (tgt := 57) dPg_exists_53 (by decide) ?_
      exact QW.iret dPg_exists_57 rfl rfl (k3 z0 z1)
theorem bPg_exists_76 {r1 : Nat} {r2 : Nat} {s0 : Int32} (hX : X.length = 13) (hr1 : kNf r1) (hr2 : kNf r2) (k1 : (s0 = 0) → P (.inl (some (.int 0)), (hpo X mem sw o e))) (k2 : (¬ s0 = 0) → P (.inl (some (.int 1)), (hpo X mem sw o e))) : QW d mPg_exists 76 (lPg_exists_76 r1 r2) [.int s0] (hpo X mem sw o e) P := by
  show QW d mPg_exists 76 [.val (.ref 190), .val (.ref r1), .val (.ref r2)] [.int s0] (hpo X mem sw o e) P
  refine QW.if_eq (tgt := 83) dPg_exists_76 (by decide) (fun z0 => ?_) (fun z0 => ?_)
  · refine QW.iconst (v := 0) dPg_exists_83 (by decide) ?_
    exact QW.iret dPg_exists_84 rfl rfl (k1 z0)
  · refine QW.iconst (v := 1) dPg_exists_79 (by decide) ?_
    refine QW.goto (tgt := 84) dPg_exists_80 (by decide) ?_
    exact QW.iret dPg_exists_84 rfl rfl (k2 z0)
theorem dPg_pairFrom_0 : decode mPg_pairFrom.2.1 0 = .ok (.iload_n 1, 1) := by decide +kernel
theorem dPg_pairFrom_1 : decode mPg_pairFrom.2.1 1 = .ok (.aload_n 2, 1) := by decide +kernel
theorem dPg_pairFrom_2 : decode mPg_pairFrom.2.1 2 = .ok (.getfield 32, 3) := by decide +kernel
theorem dPg_pairFrom_5 : decode mPg_pairFrom.2.1 5 = .ok (.if_icmp .lt 36, 3) := by decide +kernel
theorem dPg_pairFrom_8 : decode mPg_pairFrom.2.1 8 = .ok (.aload_n 0, 1) := by decide +kernel
theorem dPg_pairFrom_9 : decode mPg_pairFrom.2.1 9 = .ok (.aload_n 2, 1) := by decide +kernel
theorem dPg_pairFrom_10 : decode mPg_pairFrom.2.1 10 = .ok (.aload_n 3, 1) := by decide +kernel
theorem dPg_pairFrom_11 : decode mPg_pairFrom.2.1 11 = .ok (.invokevirtual 39, 3) := by decide +kernel
theorem dPg_pairFrom_14 : decode mPg_pairFrom.2.1 14 = .ok (.ifCond .eq 25, 3) := by decide +kernel
theorem dPg_pairFrom_17 : decode mPg_pairFrom.2.1 17 = .ok (.aload_n 0, 1) := by decide +kernel
theorem dPg_pairFrom_18 : decode mPg_pairFrom.2.1 18 = .ok (.aload_n 2, 1) := by decide +kernel
theorem dPg_pairFrom_19 : decode mPg_pairFrom.2.1 19 = .ok (.aload_n 3, 1) := by decide +kernel
theorem dPg_pairFrom_20 : decode mPg_pairFrom.2.1 20 = .ok (.invokevirtual 43, 3) := by decide +kernel
theorem dPg_pairFrom_23 : decode mPg_pairFrom.2.1 23 = .ok (.ifCond .eq 16, 3) := by decide +kernel
theorem dPg_pairFrom_26 : decode mPg_pairFrom.2.1 26 = .ok (.aload_n 0, 1) := by decide +kernel
theorem dPg_pairFrom_27 : decode mPg_pairFrom.2.1 27 = .ok (.aload_n 2, 1) := by decide +kernel
theorem dPg_pairFrom_28 : decode mPg_pairFrom.2.1 28 = .ok (.aload_n 3, 1) := by decide +kernel
theorem dPg_pairFrom_29 : decode mPg_pairFrom.2.1 29 = .ok (.invokevirtual 46, 3) := by decide +kernel
theorem dPg_pairFrom_32 : decode mPg_pairFrom.2.1 32 = .ok (.ifCond .eq 7, 3) := by decide +kernel
theorem dPg_pairFrom_35 : decode mPg_pairFrom.2.1 35 = .ok (.iconst 1, 1) := by decide +kernel
theorem dPg_pairFrom_36 : decode mPg_pairFrom.2.1 36 = .ok (.goto 4, 3) := by decide +kernel
theorem dPg_pairFrom_39 : decode mPg_pairFrom.2.1 39 = .ok (.iconst 0, 1) := by decide +kernel
theorem dPg_pairFrom_40 : decode mPg_pairFrom.2.1 40 = .ok (.ireturn, 1) := by decide +kernel
theorem dPg_pairFrom_41 : decode mPg_pairFrom.2.1 41 = .ok (.iconst 0, 1) := by decide +kernel
theorem dPg_pairFrom_42 : decode mPg_pairFrom.2.1 42 = .ok (.istore 4, 2) := by decide +kernel
theorem dPg_pairFrom_44 : decode mPg_pairFrom.2.1 44 = .ok (.iload 4, 2) := by decide +kernel
theorem dPg_pairFrom_46 : decode mPg_pairFrom.2.1 46 = .ok (.aload_n 3, 1) := by decide +kernel
theorem dPg_pairFrom_47 : decode mPg_pairFrom.2.1 47 = .ok (.getfield 32, 3) := by decide +kernel
theorem dPg_pairFrom_50 : decode mPg_pairFrom.2.1 50 = .ok (.if_icmp .ge 77, 3) := by decide +kernel
theorem dPg_pairFrom_53 : decode mPg_pairFrom.2.1 53 = .ok (.aload_n 0, 1) := by decide +kernel
theorem dPg_pairFrom_54 : decode mPg_pairFrom.2.1 54 = .ok (.getfield 15, 3) := by decide +kernel
theorem dPg_pairFrom_57 : decode mPg_pairFrom.2.1 57 = .ok (.iload 4, 2) := by decide +kernel
theorem dPg_pairFrom_59 : decode mPg_pairFrom.2.1 59 = .ok (.baload, 1) := by decide +kernel
theorem dPg_pairFrom_60 : decode mPg_pairFrom.2.1 60 = .ok (.ifCond .ne 61, 3) := by decide +kernel
theorem dPg_pairFrom_63 : decode mPg_pairFrom.2.1 63 = .ok (.aload_n 2, 1) := by decide +kernel
theorem dPg_pairFrom_64 : decode mPg_pairFrom.2.1 64 = .ok (.getfield 49, 3) := by decide +kernel
theorem dPg_pairFrom_67 : decode mPg_pairFrom.2.1 67 = .ok (.iload_n 1, 1) := by decide +kernel
theorem dPg_pairFrom_68 : decode mPg_pairFrom.2.1 68 = .ok (.iaload, 1) := by decide +kernel
theorem dPg_pairFrom_69 : decode mPg_pairFrom.2.1 69 = .ok (.aload_n 3, 1) := by decide +kernel
theorem dPg_pairFrom_70 : decode mPg_pairFrom.2.1 70 = .ok (.getfield 49, 3) := by decide +kernel
theorem dPg_pairFrom_73 : decode mPg_pairFrom.2.1 73 = .ok (.iload 4, 2) := by decide +kernel
theorem dPg_pairFrom_75 : decode mPg_pairFrom.2.1 75 = .ok (.iaload, 1) := by decide +kernel
theorem dPg_pairFrom_76 : decode mPg_pairFrom.2.1 76 = .ok (.if_icmp .ne 45, 3) := by decide +kernel
theorem dPg_pairFrom_79 : decode mPg_pairFrom.2.1 79 = .ok (.aload_n 0, 1) := by decide +kernel
theorem dPg_pairFrom_80 : decode mPg_pairFrom.2.1 80 = .ok (.getfield 9, 3) := by decide +kernel
theorem dPg_pairFrom_83 : decode mPg_pairFrom.2.1 83 = .ok (.iload_n 1, 1) := by decide +kernel
theorem dPg_pairFrom_84 : decode mPg_pairFrom.2.1 84 = .ok (.iload 4, 2) := by decide +kernel
theorem dPg_pairFrom_86 : decode mPg_pairFrom.2.1 86 = .ok (.iastore, 1) := by decide +kernel
theorem dPg_pairFrom_87 : decode mPg_pairFrom.2.1 87 = .ok (.aload_n 0, 1) := by decide +kernel
theorem dPg_pairFrom_88 : decode mPg_pairFrom.2.1 88 = .ok (.getfield 15, 3) := by decide +kernel
theorem dPg_pairFrom_91 : decode mPg_pairFrom.2.1 91 = .ok (.iload 4, 2) := by decide +kernel
theorem dPg_pairFrom_93 : decode mPg_pairFrom.2.1 93 = .ok (.iconst 1, 1) := by decide +kernel
theorem dPg_pairFrom_94 : decode mPg_pairFrom.2.1 94 = .ok (.bastore, 1) := by decide +kernel
theorem dPg_pairFrom_95 : decode mPg_pairFrom.2.1 95 = .ok (.aload_n 0, 1) := by decide +kernel
theorem dPg_pairFrom_96 : decode mPg_pairFrom.2.1 96 = .ok (.iload_n 1, 1) := by decide +kernel
theorem dPg_pairFrom_97 : decode mPg_pairFrom.2.1 97 = .ok (.iconst 1, 1) := by decide +kernel
theorem dPg_pairFrom_98 : decode mPg_pairFrom.2.1 98 = .ok (.iadd, 1) := by decide +kernel
theorem dPg_pairFrom_99 : decode mPg_pairFrom.2.1 99 = .ok (.aload_n 2, 1) := by decide +kernel
theorem dPg_pairFrom_100 : decode mPg_pairFrom.2.1 100 = .ok (.aload_n 3, 1) := by decide +kernel
theorem dPg_pairFrom_101 : decode mPg_pairFrom.2.1 101 = .ok (.invokevirtual 35, 3) := by decide +kernel
theorem dPg_pairFrom_104 : decode mPg_pairFrom.2.1 104 = .ok (.istore 5, 2) := by decide +kernel
theorem dPg_pairFrom_106 : decode mPg_pairFrom.2.1 106 = .ok (.aload_n 0, 1) := by decide +kernel
theorem dPg_pairFrom_107 : decode mPg_pairFrom.2.1 107 = .ok (.getfield 15, 3) := by decide +kernel
theorem dPg_pairFrom_110 : decode mPg_pairFrom.2.1 110 = .ok (.iload 4, 2) := by decide +kernel
theorem dPg_pairFrom_112 : decode mPg_pairFrom.2.1 112 = .ok (.iconst 0, 1) := by decide +kernel
theorem dPg_pairFrom_113 : decode mPg_pairFrom.2.1 113 = .ok (.bastore, 1) := by decide +kernel
theorem dPg_pairFrom_114 : decode mPg_pairFrom.2.1 114 = .ok (.iload 5, 2) := by decide +kernel
theorem dPg_pairFrom_116 : decode mPg_pairFrom.2.1 116 = .ok (.ifCond .eq 5, 3) := by decide +kernel
theorem dPg_pairFrom_119 : decode mPg_pairFrom.2.1 119 = .ok (.iconst 1, 1) := by decide +kernel
theorem dPg_pairFrom_120 : decode mPg_pairFrom.2.1 120 = .ok (.ireturn, 1) := by decide +kernel
theorem dPg_pairFrom_121 : decode mPg_pairFrom.2.1 121 = .ok (.iinc 4 1, 3) := by decide +kernel
theorem dPg_pairFrom_124 : decode mPg_pairFrom.2.1 124 = .ok (.goto (-80), 3) := by decide +kernel
theorem dPg_pairFrom_127 : decode mPg_pairFrom.2.1 127 = .ok (.iconst 0, 1) := by decide +kernel
theorem dPg_pairFrom_128 : decode mPg_pairFrom.2.1 128 = .ok (.ireturn, 1) := by decide +kernel
def lPg_pairFrom_14 (a1 : Int32) (r2 : Nat) (r3 : Nat) : List Slot := [.val (.ref 190), .val (.int a1), .val (.ref r2), .val (.ref r3), .unset, .unset]
def lPg_pairFrom_23 (a1 : Int32) (r2 : Nat) (r3 : Nat) : List Slot := [.val (.ref 190), .val (.int a1), .val (.ref r2), .val (.ref r3), .unset, .unset]
def lPg_pairFrom_32 (a1 : Int32) (r2 : Nat) (r3 : Nat) : List Slot := [.val (.ref 190), .val (.int a1), .val (.ref r2), .val (.ref r3), .unset, .unset]
def lPg_pairFrom_44 (a1 : Int32) (a4 : Int32) (w5 : Slot) (r2 : Nat) (r3 : Nat) : List Slot := [.val (.ref 190), .val (.int a1), .val (.ref r2), .val (.ref r3), .val (.int a4), w5]
def lPg_pairFrom_104 (a1 : Int32) (a4 : Int32) (w5 : Slot) (r2 : Nat) (r3 : Nat) : List Slot := [.val (.ref 190), .val (.int a1), .val (.ref r2), .val (.ref r3), .val (.int a4), w5]
theorem bPg_pairFrom_0 {r2 : Nat} {r3 : Nat} {a1 : Int32} (hX : X.length = 13) (hr2 : kNf r2) (hr3 : kNf r3) (k1 : (a1 < (mem r2 7)) → QW (d + 1) mPg_pairFrom 44 (lPg_pairFrom_44 a1 0 .unset r2 r3) [] (hpo X mem sw o e) P) (k2 : (¬ a1 < (mem r2 7)) → QW d mPg_columnsFit 0 (qen 5 [.ref 190, .ref r2, .ref r3]) [] (hpo X mem sw o e) (qcl d mPg_pairFrom 11 14 (lPg_pairFrom_14 a1 r2 r3) [] P)) : QW (d + 1) mPg_pairFrom 0 (qen 6 [.ref 190, .int a1, .ref r2, .ref r3]) [] (hpo X mem sw o e) P := by
  show QW (d + 1) mPg_pairFrom 0 [.val (.ref 190), .val (.int a1), .val (.ref r2), .val (.ref r3), .unset, .unset] [] (hpo X mem sw o e) P
  refine QW.iload_n dPg_pairFrom_0 rfl rfl ?_
  refine QW.aload_n dPg_pairFrom_1 rfl rfl ?_
  refine MW.geti hX dPg_pairFrom_2 fPg_32 (kNf_0 hr2) rfl ?_
  refine QW.icmp_lt (tgt := 41) dPg_pairFrom_5 (by decide) (fun z0 => ?_) (fun z0 => ?_)
  · refine QW.iconst (v := 0) dPg_pairFrom_41 (by decide) ?_
    refine QW.istore (ls' := [.val (.ref 190), .val (.int a1), .val (.ref r2), .val (.ref r3), .val (.int 0), .unset]) dPg_pairFrom_42 rfl ?_
    exact (k1 z0)
  · refine QW.aload_n dPg_pairFrom_8 rfl rfl ?_
    refine QW.aload_n dPg_pairFrom_9 rfl rfl ?_
    refine QW.aload_n dPg_pairFrom_10 rfl rfl ?_
    exact MW.calV (as := [.ref r2, .ref r3]) (rest := []) hX dPg_pairFrom_11 ePg_columnsFit lPg_39 iPg_columnsFit vPg_columnsFit rfl rfl rfl rfl rfl rfl (Nat.le_of_ble_eq_true rfl) rfl (k2 z0)
theorem bPg_pairFrom_14 {r2 : Nat} {r3 : Nat} {a1 : Int32} {s0 : Int32} (hX : X.length = 13) (hr2 : kNf r2) (hr3 : kNf r3) (k1 : (s0 = 0) → P (.inl (some (.int 0)), (hpo X mem sw o e))) (k2 : (¬ s0 = 0) → QW d mPg_outputsFit 0 (qen 4 [.ref 190, .ref r2, .ref r3]) [] (hpo X mem sw o e) (qcl d mPg_pairFrom 20 23 (lPg_pairFrom_23 a1 r2 r3) [] P)) : QW (d + 1) mPg_pairFrom 14 (lPg_pairFrom_14 a1 r2 r3) [.int s0] (hpo X mem sw o e) P := by
  show QW (d + 1) mPg_pairFrom 14 [.val (.ref 190), .val (.int a1), .val (.ref r2), .val (.ref r3), .unset, .unset] [.int s0] (hpo X mem sw o e) P
  refine QW.if_eq (tgt := 39) dPg_pairFrom_14 (by decide) (fun z0 => ?_) (fun z0 => ?_)
  · refine QW.iconst (v := 0) dPg_pairFrom_39 (by decide) ?_
    exact QW.iret dPg_pairFrom_40 rfl rfl (k1 z0)
  · refine QW.aload_n dPg_pairFrom_17 rfl rfl ?_
    refine QW.aload_n dPg_pairFrom_18 rfl rfl ?_
    refine QW.aload_n dPg_pairFrom_19 rfl rfl ?_
    exact MW.calV (as := [.ref r2, .ref r3]) (rest := []) hX dPg_pairFrom_20 ePg_outputsFit lPg_43 iPg_outputsFit vPg_outputsFit rfl rfl rfl rfl rfl rfl (Nat.le_of_ble_eq_true rfl) rfl (k2 z0)
theorem bPg_pairFrom_23 {r2 : Nat} {r3 : Nat} {a1 : Int32} {s0 : Int32} (hX : X.length = 13) (hr2 : kNf r2) (hr3 : kNf r3) (k1 : (s0 = 0) → P (.inl (some (.int 0)), (hpo X mem sw o e))) (k2 : (¬ s0 = 0) → QW d mPg_lessFits 0 (qen 6 [.ref 190, .ref r2, .ref r3]) [] (hpo X mem sw o e) (qcl d mPg_pairFrom 29 32 (lPg_pairFrom_32 a1 r2 r3) [] P)) : QW (d + 1) mPg_pairFrom 23 (lPg_pairFrom_23 a1 r2 r3) [.int s0] (hpo X mem sw o e) P := by
  show QW (d + 1) mPg_pairFrom 23 [.val (.ref 190), .val (.int a1), .val (.ref r2), .val (.ref r3), .unset, .unset] [.int s0] (hpo X mem sw o e) P
  refine QW.if_eq (tgt := 39) dPg_pairFrom_23 (by decide) (fun z0 => ?_) (fun z0 => ?_)
  · refine QW.iconst (v := 0) dPg_pairFrom_39 (by decide) ?_
    exact QW.iret dPg_pairFrom_40 rfl rfl (k1 z0)
  · refine QW.aload_n dPg_pairFrom_26 rfl rfl ?_
    refine QW.aload_n dPg_pairFrom_27 rfl rfl ?_
    refine QW.aload_n dPg_pairFrom_28 rfl rfl ?_
    exact MW.calV (as := [.ref r2, .ref r3]) (rest := []) hX dPg_pairFrom_29 ePg_lessFits lPg_46 iPg_lessFits vPg_lessFits rfl rfl rfl rfl rfl rfl (Nat.le_of_ble_eq_true rfl) rfl (k2 z0)
theorem bPg_pairFrom_32 {r2 : Nat} {r3 : Nat} {a1 : Int32} {s0 : Int32} (hX : X.length = 13) (hr2 : kNf r2) (hr3 : kNf r3) (k1 : (s0 = 0) → P (.inl (some (.int 0)), (hpo X mem sw o e))) (k2 : (¬ s0 = 0) → P (.inl (some (.int 1)), (hpo X mem sw o e))) : QW d mPg_pairFrom 32 (lPg_pairFrom_32 a1 r2 r3) [.int s0] (hpo X mem sw o e) P := by
  show QW d mPg_pairFrom 32 [.val (.ref 190), .val (.int a1), .val (.ref r2), .val (.ref r3), .unset, .unset] [.int s0] (hpo X mem sw o e) P
  refine QW.if_eq (tgt := 39) dPg_pairFrom_32 (by decide) (fun z0 => ?_) (fun z0 => ?_)
  · refine QW.iconst (v := 0) dPg_pairFrom_39 (by decide) ?_
    exact QW.iret dPg_pairFrom_40 rfl rfl (k1 z0)
  · refine QW.iconst (v := 1) dPg_pairFrom_35 (by decide) ?_
    refine QW.goto (tgt := 40) dPg_pairFrom_36 (by decide) ?_
    exact QW.iret dPg_pairFrom_40 rfl rfl (k2 z0)
theorem bPg_pairFrom_44 {r2 : Nat} {r3 : Nat} {a1 : Int32} {a4 : Int32} {w5 : Slot} (hX : X.length = 13) (hr2 : kNf r2) (hr3 : kNf r3) (hw5 : qfr w5) (k1 : ((mem r3 7) ≤ a4) → P (.inl (some (.int 0)), (hpo X mem sw o e))) (h2 : (¬ (mem r3 7) ≤ a4) → inx a4 4) (k3 : (¬ (mem r3 7) ≤ a4) → (¬ (mem 192 (Int32.toNatClampNeg a4)) = 0) → QW (d + 1) mPg_pairFrom 44 (lPg_pairFrom_44 a1 (a4 + 1) w5 r2 r3) [] (hpo X mem sw o e) P) (h4 : (¬ (mem r3 7) ≤ a4) → ((mem 192 (Int32.toNatClampNeg a4)) = 0) → inx a1 4) (h5 : (¬ (mem r3 7) ≤ a4) → ((mem 192 (Int32.toNatClampNeg a4)) = 0) → inx a4 4) (k6 : (¬ (mem r3 7) ≤ a4) → ((mem 192 (Int32.toNatClampNeg a4)) = 0) → (¬ (mem (r2 + 5) (Int32.toNatClampNeg a1)) = (mem (r3 + 5) (Int32.toNatClampNeg a4))) → QW (d + 1) mPg_pairFrom 44 (lPg_pairFrom_44 a1 (a4 + 1) w5 r2 r3) [] (hpo X mem sw o e) P) (h7 : (¬ (mem r3 7) ≤ a4) → ((mem 192 (Int32.toNatClampNeg a4)) = 0) → ((mem (r2 + 5) (Int32.toNatClampNeg a1)) = (mem (r3 + 5) (Int32.toNatClampNeg a4))) → inx a1 4) (h8 : (¬ (mem r3 7) ≤ a4) → ((mem 192 (Int32.toNatClampNeg a4)) = 0) → ((mem (r2 + 5) (Int32.toNatClampNeg a1)) = (mem (r3 + 5) (Int32.toNatClampNeg a4))) → inx a4 4) (k9 : (¬ (mem r3 7) ≤ a4) → ((mem 192 (Int32.toNatClampNeg a4)) = 0) → ((mem (r2 + 5) (Int32.toNatClampNeg a1)) = (mem (r3 + 5) (Int32.toNatClampNeg a4))) → QW d mPg_pairFrom 0 (qen 6 [.ref 190, .int (a1 + 1), .ref r2, .ref r3]) [] (hpo X (mup (mup mem 191 (Int32.toNatClampNeg a1) a4) 192 (Int32.toNatClampNeg a4) 1) sw o e) (qcl d mPg_pairFrom 101 104 (lPg_pairFrom_104 a1 a4 w5 r2 r3) [] P)) : QW (d + 1) mPg_pairFrom 44 (lPg_pairFrom_44 a1 a4 w5 r2 r3) [] (hpo X mem sw o e) P := by
  show QW (d + 1) mPg_pairFrom 44 [.val (.ref 190), .val (.int a1), .val (.ref r2), .val (.ref r3), .val (.int a4), w5] [] (hpo X mem sw o e) P
  refine QW.iload dPg_pairFrom_44 rfl ?_
  refine QW.aload_n dPg_pairFrom_46 rfl rfl ?_
  refine MW.geti hX dPg_pairFrom_47 fPg_32 (kNf_0 hr3) rfl ?_
  refine QW.icmp_ge (tgt := 127) dPg_pairFrom_50 (by decide) (fun z0 => ?_) (fun z0 => ?_)
  · refine QW.iconst (v := 0) dPg_pairFrom_127 (by decide) ?_
    exact QW.iret dPg_pairFrom_128 rfl rfl (k1 z0)
  · refine QW.aload_n dPg_pairFrom_53 rfl rfl ?_
    refine MW.getr (r' := 192) hX dPg_pairFrom_54 fPg_15 rfl rfl (by cases sw <;> rfl) ?_
    refine QW.iload dPg_pairFrom_57 rfl ?_
    refine MW.zald hX dPg_pairFrom_59 rfl (h2 z0).1 (rep_get (h2 z0).2) ?_
    refine QW.if_ne (tgt := 121) dPg_pairFrom_60 (by decide) (fun z1 => ?_) (fun z1 => ?_)
    · refine MW.iinc (c := 1) (ls' := [.val (.ref 190), .val (.int a1), .val (.ref r2), .val (.ref r3), .val (.int (a4 + 1)), w5]) dPg_pairFrom_121 (by decide) rfl rfl ?_
      refine QW.goto (tgt := 44) dPg_pairFrom_124 (by decide) ?_
      exact (k3 z0 z1)
    · refine QW.aload_n dPg_pairFrom_63 rfl rfl ?_
      refine MW.getr (r' := (r2 + 5)) hX dPg_pairFrom_64 fPg_49 (kNf_0 hr2) rfl (kNf_s5 hr2 _) ?_
      refine QW.iload_n dPg_pairFrom_67 rfl rfl ?_
      refine MW.iald hX dPg_pairFrom_68 (kNf_5 hr2) (h4 z0 z1).1 (rep_get (h4 z0 z1).2) ?_
      refine QW.aload_n dPg_pairFrom_69 rfl rfl ?_
      refine MW.getr (r' := (r3 + 5)) hX dPg_pairFrom_70 fPg_49 (kNf_0 hr3) rfl (kNf_s5 hr3 _) ?_
      refine QW.iload dPg_pairFrom_73 rfl ?_
      refine MW.iald hX dPg_pairFrom_75 (kNf_5 hr3) (h5 z0 z1).1 (rep_get (h5 z0 z1).2) ?_
      refine QW.icmp_ne (tgt := 121) dPg_pairFrom_76 (by decide) (fun z2 => ?_) (fun z2 => ?_)
      · refine MW.iinc (c := 1) (ls' := [.val (.ref 190), .val (.int a1), .val (.ref r2), .val (.ref r3), .val (.int (a4 + 1)), w5]) dPg_pairFrom_121 (by decide) rfl rfl ?_
        refine QW.goto (tgt := 44) dPg_pairFrom_124 (by decide) ?_
        exact (k6 z0 z1 z2)
      · refine QW.aload_n dPg_pairFrom_79 rfl rfl ?_
        refine MW.getr (r' := 191) hX dPg_pairFrom_80 fPg_9 rfl rfl (by cases sw <;> rfl) ?_
        refine QW.iload_n dPg_pairFrom_83 rfl rfl ?_
        refine QW.iload dPg_pairFrom_84 rfl ?_
        refine MW.iast hX dPg_pairFrom_86 rfl (h7 z0 z1 z2).1 (rep_get (h7 z0 z1 z2).2) ?_
        refine QW.aload_n dPg_pairFrom_87 rfl rfl ?_
        refine MW.getr (r' := 192) hX dPg_pairFrom_88 fPg_15 rfl rfl (by cases sw <;> rfl) ?_
        refine QW.iload dPg_pairFrom_91 rfl ?_
        refine QW.iconst (v := 1) dPg_pairFrom_93 (by decide) ?_
        refine MW.zast hX dPg_pairFrom_94 rfl (h8 z0 z1 z2).1 (rep_get (h8 z0 z1 z2).2) rfl ?_
        refine QW.aload_n dPg_pairFrom_95 rfl rfl ?_
        refine QW.iload_n dPg_pairFrom_96 rfl rfl ?_
        refine QW.iconst (v := 1) dPg_pairFrom_97 (by decide) ?_
        refine QW.iadd dPg_pairFrom_98 ?_
        refine QW.aload_n dPg_pairFrom_99 rfl rfl ?_
        refine QW.aload_n dPg_pairFrom_100 rfl rfl ?_
        exact MW.calV (as := [.int (a1 + 1), .ref r2, .ref r3]) (rest := []) hX dPg_pairFrom_101 ePg_pairFrom lPg_35 iPg_pairFrom vPg_pairFrom rfl rfl rfl rfl rfl rfl (Nat.le_of_ble_eq_true rfl) rfl (k9 z0 z1 z2)
theorem bPg_pairFrom_104 {r2 : Nat} {r3 : Nat} {a1 : Int32} {a4 : Int32} {w5 : Slot} {s0 : Int32} (hX : X.length = 13) (hr2 : kNf r2) (hr3 : kNf r3) (hw5 : qfr w5) (h1 : inx a4 4) (k2 : (s0 = 0) → QW d mPg_pairFrom 44 (lPg_pairFrom_44 a1 (a4 + 1) (.val (.int s0)) r2 r3) [] (hpo X (mup mem 192 (Int32.toNatClampNeg a4) 0) sw o e) P) (k3 : (¬ s0 = 0) → P (.inl (some (.int 1)), (hpo X (mup mem 192 (Int32.toNatClampNeg a4) 0) sw o e))) : QW d mPg_pairFrom 104 (lPg_pairFrom_104 a1 a4 w5 r2 r3) [.int s0] (hpo X mem sw o e) P := by
  show QW d mPg_pairFrom 104 [.val (.ref 190), .val (.int a1), .val (.ref r2), .val (.ref r3), .val (.int a4), w5] [.int s0] (hpo X mem sw o e) P
  refine QW.istore (ls' := [.val (.ref 190), .val (.int a1), .val (.ref r2), .val (.ref r3), .val (.int a4), .val (.int s0)]) dPg_pairFrom_104 (by rcases hw5 with z | ⟨_, z⟩ | ⟨_, z⟩ <;> subst z <;> rfl) ?_
  refine QW.aload_n dPg_pairFrom_106 rfl rfl ?_
  refine MW.getr (r' := 192) hX dPg_pairFrom_107 fPg_15 rfl rfl (by cases sw <;> rfl) ?_
  refine QW.iload dPg_pairFrom_110 rfl ?_
  refine QW.iconst (v := 0) dPg_pairFrom_112 (by decide) ?_
  refine MW.zast hX dPg_pairFrom_113 rfl h1.1 (rep_get h1.2) rfl ?_
  refine QW.iload dPg_pairFrom_114 rfl ?_
  refine QW.if_eq (tgt := 121) dPg_pairFrom_116 (by decide) (fun z0 => ?_) (fun z0 => ?_)
  · refine MW.iinc (c := 1) (ls' := [.val (.ref 190), .val (.int a1), .val (.ref r2), .val (.ref r3), .val (.int (a4 + 1)), .val (.int s0)]) dPg_pairFrom_121 (by decide) rfl rfl ?_
    refine QW.goto (tgt := 44) dPg_pairFrom_124 (by decide) ?_
    exact (k2 z0)
  · refine QW.iconst (v := 1) dPg_pairFrom_119 (by decide) ?_
    exact QW.iret dPg_pairFrom_120 rfl rfl (k3 z0)
theorem dPg_columnsFit_0 : decode mPg_columnsFit.2.1 0 = .ok (.iconst 0, 1) := by decide +kernel
theorem dPg_columnsFit_1 : decode mPg_columnsFit.2.1 1 = .ok (.istore_n 3, 1) := by decide +kernel
theorem dPg_columnsFit_2 : decode mPg_columnsFit.2.1 2 = .ok (.iload_n 3, 1) := by decide +kernel
theorem dPg_columnsFit_3 : decode mPg_columnsFit.2.1 3 = .ok (.aload_n 1, 1) := by decide +kernel
theorem dPg_columnsFit_4 : decode mPg_columnsFit.2.1 4 = .ok (.getfield 32, 3) := by decide +kernel
theorem dPg_columnsFit_7 : decode mPg_columnsFit.2.1 7 = .ok (.if_icmp .ge 43, 3) := by decide +kernel
theorem dPg_columnsFit_10 : decode mPg_columnsFit.2.1 10 = .ok (.iconst 0, 1) := by decide +kernel
theorem dPg_columnsFit_11 : decode mPg_columnsFit.2.1 11 = .ok (.istore 4, 2) := by decide +kernel
theorem dPg_columnsFit_13 : decode mPg_columnsFit.2.1 13 = .ok (.iload 4, 2) := by decide +kernel
theorem dPg_columnsFit_15 : decode mPg_columnsFit.2.1 15 = .ok (.aload_n 1, 1) := by decide +kernel
theorem dPg_columnsFit_16 : decode mPg_columnsFit.2.1 16 = .ok (.getfield 52, 3) := by decide +kernel
theorem dPg_columnsFit_19 : decode mPg_columnsFit.2.1 19 = .ok (.iload_n 3, 1) := by decide +kernel
theorem dPg_columnsFit_20 : decode mPg_columnsFit.2.1 20 = .ok (.iaload, 1) := by decide +kernel
theorem dPg_columnsFit_21 : decode mPg_columnsFit.2.1 21 = .ok (.if_icmp .ge 23, 3) := by decide +kernel
theorem dPg_columnsFit_24 : decode mPg_columnsFit.2.1 24 = .ok (.aload_n 0, 1) := by decide +kernel
theorem dPg_columnsFit_25 : decode mPg_columnsFit.2.1 25 = .ok (.iload_n 3, 1) := by decide +kernel
theorem dPg_columnsFit_26 : decode mPg_columnsFit.2.1 26 = .ok (.iload 4, 2) := by decide +kernel
theorem dPg_columnsFit_28 : decode mPg_columnsFit.2.1 28 = .ok (.aload_n 1, 1) := by decide +kernel
theorem dPg_columnsFit_29 : decode mPg_columnsFit.2.1 29 = .ok (.aload_n 2, 1) := by decide +kernel
theorem dPg_columnsFit_30 : decode mPg_columnsFit.2.1 30 = .ok (.invokevirtual 55, 3) := by decide +kernel
theorem dPg_columnsFit_33 : decode mPg_columnsFit.2.1 33 = .ok (.ifCond .ne 5, 3) := by decide +kernel
theorem dPg_columnsFit_36 : decode mPg_columnsFit.2.1 36 = .ok (.iconst 0, 1) := by decide +kernel
theorem dPg_columnsFit_37 : decode mPg_columnsFit.2.1 37 = .ok (.ireturn, 1) := by decide +kernel
theorem dPg_columnsFit_38 : decode mPg_columnsFit.2.1 38 = .ok (.iinc 4 1, 3) := by decide +kernel
theorem dPg_columnsFit_41 : decode mPg_columnsFit.2.1 41 = .ok (.goto (-28), 3) := by decide +kernel
theorem dPg_columnsFit_44 : decode mPg_columnsFit.2.1 44 = .ok (.iinc 3 1, 3) := by decide +kernel
theorem dPg_columnsFit_47 : decode mPg_columnsFit.2.1 47 = .ok (.goto (-45), 3) := by decide +kernel
theorem dPg_columnsFit_50 : decode mPg_columnsFit.2.1 50 = .ok (.iconst 1, 1) := by decide +kernel
theorem dPg_columnsFit_51 : decode mPg_columnsFit.2.1 51 = .ok (.ireturn, 1) := by decide +kernel
def lPg_columnsFit_2 (a3 : Int32) (w4 : Slot) (r1 : Nat) (r2 : Nat) : List Slot := [.val (.ref 190), .val (.ref r1), .val (.ref r2), .val (.int a3), w4]
def lPg_columnsFit_13 (a3 : Int32) (a4 : Int32) (r1 : Nat) (r2 : Nat) : List Slot := [.val (.ref 190), .val (.ref r1), .val (.ref r2), .val (.int a3), .val (.int a4)]
def lPg_columnsFit_33 (a3 : Int32) (a4 : Int32) (r1 : Nat) (r2 : Nat) : List Slot := [.val (.ref 190), .val (.ref r1), .val (.ref r2), .val (.int a3), .val (.int a4)]
theorem bPg_columnsFit_0 {r1 : Nat} {r2 : Nat} (hX : X.length = 13) (hr1 : kNf r1) (hr2 : kNf r2) (k1 : QW d mPg_columnsFit 2 (lPg_columnsFit_2 0 .unset r1 r2) [] (hpo X mem sw o e) P) : QW d mPg_columnsFit 0 (qen 5 [.ref 190, .ref r1, .ref r2]) [] (hpo X mem sw o e) P := by
  show QW d mPg_columnsFit 0 [.val (.ref 190), .val (.ref r1), .val (.ref r2), .unset, .unset] [] (hpo X mem sw o e) P
  refine QW.iconst (v := 0) dPg_columnsFit_0 (by decide) ?_
  refine QW.istore_n (ls' := [.val (.ref 190), .val (.ref r1), .val (.ref r2), .val (.int 0), .unset]) dPg_columnsFit_1 rfl rfl ?_
  exact k1
theorem bPg_columnsFit_2 {r1 : Nat} {r2 : Nat} {a3 : Int32} {w4 : Slot} (hX : X.length = 13) (hr1 : kNf r1) (hr2 : kNf r2) (hw4 : qfr w4) (k1 : ((mem r1 7) ≤ a3) → P (.inl (some (.int 1)), (hpo X mem sw o e))) (k2 : (¬ (mem r1 7) ≤ a3) → QW d mPg_columnsFit 13 (lPg_columnsFit_13 a3 0 r1 r2) [] (hpo X mem sw o e) P) : QW d mPg_columnsFit 2 (lPg_columnsFit_2 a3 w4 r1 r2) [] (hpo X mem sw o e) P := by
  show QW d mPg_columnsFit 2 [.val (.ref 190), .val (.ref r1), .val (.ref r2), .val (.int a3), w4] [] (hpo X mem sw o e) P
  refine QW.iload_n dPg_columnsFit_2 rfl rfl ?_
  refine QW.aload_n dPg_columnsFit_3 rfl rfl ?_
  refine MW.geti hX dPg_columnsFit_4 fPg_32 (kNf_0 hr1) rfl ?_
  refine QW.icmp_ge (tgt := 50) dPg_columnsFit_7 (by decide) (fun z0 => ?_) (fun z0 => ?_)
  · refine QW.iconst (v := 1) dPg_columnsFit_50 (by decide) ?_
    exact QW.iret dPg_columnsFit_51 rfl rfl (k1 z0)
  · refine QW.iconst (v := 0) dPg_columnsFit_10 (by decide) ?_
    refine QW.istore (ls' := [.val (.ref 190), .val (.ref r1), .val (.ref r2), .val (.int a3), .val (.int 0)]) dPg_columnsFit_11 (by rcases hw4 with z | ⟨_, z⟩ | ⟨_, z⟩ <;> subst z <;> rfl) ?_
    exact (k2 z0)
theorem bPg_columnsFit_13 {r1 : Nat} {r2 : Nat} {a3 : Int32} {a4 : Int32} (hX : X.length = 13) (hr1 : kNf r1) (hr2 : kNf r2) (h1 : inx a3 4) (k2 : ((mem (r1 + 6) (Int32.toNatClampNeg a3)) ≤ a4) → QW (d + 1) mPg_columnsFit 2 (lPg_columnsFit_2 (a3 + 1) (.val (.int a4)) r1 r2) [] (hpo X mem sw o e) P) (k3 : (¬ (mem (r1 + 6) (Int32.toNatClampNeg a3)) ≤ a4) → QW d mPg_columnFits 0 (qen 9 [.ref 190, .int a3, .int a4, .ref r1, .ref r2]) [] (hpo X mem sw o e) (qcl d mPg_columnsFit 30 33 (lPg_columnsFit_33 a3 a4 r1 r2) [] P)) : QW (d + 1) mPg_columnsFit 13 (lPg_columnsFit_13 a3 a4 r1 r2) [] (hpo X mem sw o e) P := by
  show QW (d + 1) mPg_columnsFit 13 [.val (.ref 190), .val (.ref r1), .val (.ref r2), .val (.int a3), .val (.int a4)] [] (hpo X mem sw o e) P
  refine QW.iload dPg_columnsFit_13 rfl ?_
  refine QW.aload_n dPg_columnsFit_15 rfl rfl ?_
  refine MW.getr (r' := (r1 + 6)) hX dPg_columnsFit_16 fPg_52 (kNf_0 hr1) rfl (kNf_s6 hr1 _) ?_
  refine QW.iload_n dPg_columnsFit_19 rfl rfl ?_
  refine MW.iald hX dPg_columnsFit_20 (kNf_6 hr1) h1.1 (rep_get h1.2) ?_
  refine QW.icmp_ge (tgt := 44) dPg_columnsFit_21 (by decide) (fun z0 => ?_) (fun z0 => ?_)
  · refine MW.iinc (c := 1) (ls' := [.val (.ref 190), .val (.ref r1), .val (.ref r2), .val (.int (a3 + 1)), .val (.int a4)]) dPg_columnsFit_44 (by decide) rfl rfl ?_
    refine QW.goto (tgt := 2) dPg_columnsFit_47 (by decide) ?_
    exact (k2 z0)
  · refine QW.aload_n dPg_columnsFit_24 rfl rfl ?_
    refine QW.iload_n dPg_columnsFit_25 rfl rfl ?_
    refine QW.iload dPg_columnsFit_26 rfl ?_
    refine QW.aload_n dPg_columnsFit_28 rfl rfl ?_
    refine QW.aload_n dPg_columnsFit_29 rfl rfl ?_
    exact MW.calV (as := [.int a3, .int a4, .ref r1, .ref r2]) (rest := []) hX dPg_columnsFit_30 ePg_columnFits lPg_55 iPg_columnFits vPg_columnFits rfl rfl rfl rfl rfl rfl (Nat.le_of_ble_eq_true rfl) rfl (k3 z0)
theorem bPg_columnsFit_33 {r1 : Nat} {r2 : Nat} {a3 : Int32} {a4 : Int32} {s0 : Int32} (hX : X.length = 13) (hr1 : kNf r1) (hr2 : kNf r2) (k1 : (¬ s0 = 0) → QW d mPg_columnsFit 13 (lPg_columnsFit_13 a3 (a4 + 1) r1 r2) [] (hpo X mem sw o e) P) (k2 : (s0 = 0) → P (.inl (some (.int 0)), (hpo X mem sw o e))) : QW d mPg_columnsFit 33 (lPg_columnsFit_33 a3 a4 r1 r2) [.int s0] (hpo X mem sw o e) P := by
  show QW d mPg_columnsFit 33 [.val (.ref 190), .val (.ref r1), .val (.ref r2), .val (.int a3), .val (.int a4)] [.int s0] (hpo X mem sw o e) P
  refine QW.if_ne (tgt := 38) dPg_columnsFit_33 (by decide) (fun z0 => ?_) (fun z0 => ?_)
  · refine MW.iinc (c := 1) (ls' := [.val (.ref 190), .val (.ref r1), .val (.ref r2), .val (.int a3), .val (.int (a4 + 1))]) dPg_columnsFit_38 (by decide) rfl rfl ?_
    refine QW.goto (tgt := 13) dPg_columnsFit_41 (by decide) ?_
    exact (k1 z0)
  · refine QW.iconst (v := 0) dPg_columnsFit_36 (by decide) ?_
    exact QW.iret dPg_columnsFit_37 rfl rfl (k2 z0)
theorem dPg_columnFits_0 : decode mPg_columnFits.2.1 0 = .ok (.aload_n 3, 1) := by decide +kernel
theorem dPg_columnFits_1 : decode mPg_columnFits.2.1 1 = .ok (.iload_n 1, 1) := by decide +kernel
theorem dPg_columnFits_2 : decode mPg_columnFits.2.1 2 = .ok (.iload_n 2, 1) := by decide +kernel
theorem dPg_columnFits_3 : decode mPg_columnFits.2.1 3 = .ok (.invokevirtual 59, 3) := by decide +kernel
theorem dPg_columnFits_6 : decode mPg_columnFits.2.1 6 = .ok (.istore 5, 2) := by decide +kernel
theorem dPg_columnFits_8 : decode mPg_columnFits.2.1 8 = .ok (.aload 4, 2) := by decide +kernel
theorem dPg_columnFits_10 : decode mPg_columnFits.2.1 10 = .ok (.aload_n 0, 1) := by decide +kernel
theorem dPg_columnFits_11 : decode mPg_columnFits.2.1 11 = .ok (.getfield 9, 3) := by decide +kernel
theorem dPg_columnFits_14 : decode mPg_columnFits.2.1 14 = .ok (.iload_n 1, 1) := by decide +kernel
theorem dPg_columnFits_15 : decode mPg_columnFits.2.1 15 = .ok (.iaload, 1) := by decide +kernel
theorem dPg_columnFits_16 : decode mPg_columnFits.2.1 16 = .ok (.iload_n 2, 1) := by decide +kernel
theorem dPg_columnFits_17 : decode mPg_columnFits.2.1 17 = .ok (.invokevirtual 59, 3) := by decide +kernel
theorem dPg_columnFits_20 : decode mPg_columnFits.2.1 20 = .ok (.istore 6, 2) := by decide +kernel
theorem dPg_columnFits_22 : decode mPg_columnFits.2.1 22 = .ok (.aload_n 3, 1) := by decide +kernel
theorem dPg_columnFits_23 : decode mPg_columnFits.2.1 23 = .ok (.getfield 63, 3) := by decide +kernel
theorem dPg_columnFits_26 : decode mPg_columnFits.2.1 26 = .ok (.iload 5, 2) := by decide +kernel
theorem dPg_columnFits_28 : decode mPg_columnFits.2.1 28 = .ok (.iaload, 1) := by decide +kernel
theorem dPg_columnFits_29 : decode mPg_columnFits.2.1 29 = .ok (.aload 4, 2) := by decide +kernel
theorem dPg_columnFits_31 : decode mPg_columnFits.2.1 31 = .ok (.getfield 63, 3) := by decide +kernel
theorem dPg_columnFits_34 : decode mPg_columnFits.2.1 34 = .ok (.iload 6, 2) := by decide +kernel
theorem dPg_columnFits_36 : decode mPg_columnFits.2.1 36 = .ok (.iaload, 1) := by decide +kernel
theorem dPg_columnFits_37 : decode mPg_columnFits.2.1 37 = .ok (.if_icmp .eq 5, 3) := by decide +kernel
theorem dPg_columnFits_40 : decode mPg_columnFits.2.1 40 = .ok (.iconst 0, 1) := by decide +kernel
theorem dPg_columnFits_41 : decode mPg_columnFits.2.1 41 = .ok (.ireturn, 1) := by decide +kernel
theorem dPg_columnFits_42 : decode mPg_columnFits.2.1 42 = .ok (.iconst 0, 1) := by decide +kernel
theorem dPg_columnFits_43 : decode mPg_columnFits.2.1 43 = .ok (.istore 7, 2) := by decide +kernel
theorem dPg_columnFits_45 : decode mPg_columnFits.2.1 45 = .ok (.iload 7, 2) := by decide +kernel
theorem dPg_columnFits_47 : decode mPg_columnFits.2.1 47 = .ok (.aload_n 3, 1) := by decide +kernel
theorem dPg_columnFits_48 : decode mPg_columnFits.2.1 48 = .ok (.getfield 32, 3) := by decide +kernel
theorem dPg_columnFits_51 : decode mPg_columnFits.2.1 51 = .ok (.if_icmp .ge 77, 3) := by decide +kernel
theorem dPg_columnFits_54 : decode mPg_columnFits.2.1 54 = .ok (.iconst 0, 1) := by decide +kernel
theorem dPg_columnFits_55 : decode mPg_columnFits.2.1 55 = .ok (.istore 8, 2) := by decide +kernel
theorem dPg_columnFits_57 : decode mPg_columnFits.2.1 57 = .ok (.iload 8, 2) := by decide +kernel
theorem dPg_columnFits_59 : decode mPg_columnFits.2.1 59 = .ok (.aload_n 3, 1) := by decide +kernel
theorem dPg_columnFits_60 : decode mPg_columnFits.2.1 60 = .ok (.getfield 52, 3) := by decide +kernel
theorem dPg_columnFits_63 : decode mPg_columnFits.2.1 63 = .ok (.iload 7, 2) := by decide +kernel
theorem dPg_columnFits_65 : decode mPg_columnFits.2.1 65 = .ok (.iaload, 1) := by decide +kernel
theorem dPg_columnFits_66 : decode mPg_columnFits.2.1 66 = .ok (.if_icmp .ge 56, 3) := by decide +kernel
theorem dPg_columnFits_69 : decode mPg_columnFits.2.1 69 = .ok (.aload_n 3, 1) := by decide +kernel
theorem dPg_columnFits_70 : decode mPg_columnFits.2.1 70 = .ok (.iload 7, 2) := by decide +kernel
theorem dPg_columnFits_72 : decode mPg_columnFits.2.1 72 = .ok (.iload 8, 2) := by decide +kernel
theorem dPg_columnFits_74 : decode mPg_columnFits.2.1 74 = .ok (.invokevirtual 59, 3) := by decide +kernel
theorem dPg_columnFits_77 : decode mPg_columnFits.2.1 77 = .ok (.iload 5, 2) := by decide +kernel
theorem dPg_columnFits_79 : decode mPg_columnFits.2.1 79 = .ok (.if_icmp .ne 7, 3) := by decide +kernel
theorem dPg_columnFits_82 : decode mPg_columnFits.2.1 82 = .ok (.iconst 1, 1) := by decide +kernel
theorem dPg_columnFits_83 : decode mPg_columnFits.2.1 83 = .ok (.goto 4, 3) := by decide +kernel
theorem dPg_columnFits_86 : decode mPg_columnFits.2.1 86 = .ok (.iconst 0, 1) := by decide +kernel
theorem dPg_columnFits_87 : decode mPg_columnFits.2.1 87 = .ok (.aload 4, 2) := by decide +kernel
theorem dPg_columnFits_89 : decode mPg_columnFits.2.1 89 = .ok (.aload_n 0, 1) := by decide +kernel
theorem dPg_columnFits_90 : decode mPg_columnFits.2.1 90 = .ok (.getfield 9, 3) := by decide +kernel
theorem dPg_columnFits_93 : decode mPg_columnFits.2.1 93 = .ok (.iload 7, 2) := by decide +kernel
theorem dPg_columnFits_95 : decode mPg_columnFits.2.1 95 = .ok (.iaload, 1) := by decide +kernel
theorem dPg_columnFits_96 : decode mPg_columnFits.2.1 96 = .ok (.iload 8, 2) := by decide +kernel
theorem dPg_columnFits_98 : decode mPg_columnFits.2.1 98 = .ok (.invokevirtual 59, 3) := by decide +kernel
theorem dPg_columnFits_101 : decode mPg_columnFits.2.1 101 = .ok (.iload 6, 2) := by decide +kernel
theorem dPg_columnFits_103 : decode mPg_columnFits.2.1 103 = .ok (.if_icmp .ne 7, 3) := by decide +kernel
theorem dPg_columnFits_106 : decode mPg_columnFits.2.1 106 = .ok (.iconst 1, 1) := by decide +kernel
theorem dPg_columnFits_107 : decode mPg_columnFits.2.1 107 = .ok (.goto 4, 3) := by decide +kernel
theorem dPg_columnFits_110 : decode mPg_columnFits.2.1 110 = .ok (.iconst 0, 1) := by decide +kernel
theorem dPg_columnFits_111 : decode mPg_columnFits.2.1 111 = .ok (.if_icmp .eq 5, 3) := by decide +kernel
theorem dPg_columnFits_114 : decode mPg_columnFits.2.1 114 = .ok (.iconst 0, 1) := by decide +kernel
theorem dPg_columnFits_115 : decode mPg_columnFits.2.1 115 = .ok (.ireturn, 1) := by decide +kernel
theorem dPg_columnFits_116 : decode mPg_columnFits.2.1 116 = .ok (.iinc 8 1, 3) := by decide +kernel
theorem dPg_columnFits_119 : decode mPg_columnFits.2.1 119 = .ok (.goto (-62), 3) := by decide +kernel
theorem dPg_columnFits_122 : decode mPg_columnFits.2.1 122 = .ok (.iinc 7 1, 3) := by decide +kernel
theorem dPg_columnFits_125 : decode mPg_columnFits.2.1 125 = .ok (.goto (-80), 3) := by decide +kernel
theorem dPg_columnFits_128 : decode mPg_columnFits.2.1 128 = .ok (.iconst 1, 1) := by decide +kernel
theorem dPg_columnFits_129 : decode mPg_columnFits.2.1 129 = .ok (.ireturn, 1) := by decide +kernel
def lPg_columnFits_6 (a1 : Int32) (a2 : Int32) (r3 : Nat) (r4 : Nat) : List Slot := [.val (.ref 190), .val (.int a1), .val (.int a2), .val (.ref r3), .val (.ref r4), .unset, .unset, .unset, .unset]
def lPg_columnFits_20 (a1 : Int32) (a2 : Int32) (a5 : Int32) (r3 : Nat) (r4 : Nat) : List Slot := [.val (.ref 190), .val (.int a1), .val (.int a2), .val (.ref r3), .val (.ref r4), .val (.int a5), .unset, .unset, .unset]
def lPg_columnFits_45 (a1 : Int32) (a2 : Int32) (a5 : Int32) (a6 : Int32) (a7 : Int32) (w8 : Slot) (r3 : Nat) (r4 : Nat) : List Slot := [.val (.ref 190), .val (.int a1), .val (.int a2), .val (.ref r3), .val (.ref r4), .val (.int a5), .val (.int a6), .val (.int a7), w8]
def lPg_columnFits_57 (a1 : Int32) (a2 : Int32) (a5 : Int32) (a6 : Int32) (a7 : Int32) (a8 : Int32) (r3 : Nat) (r4 : Nat) : List Slot := [.val (.ref 190), .val (.int a1), .val (.int a2), .val (.ref r3), .val (.ref r4), .val (.int a5), .val (.int a6), .val (.int a7), .val (.int a8)]
def lPg_columnFits_77 (a1 : Int32) (a2 : Int32) (a5 : Int32) (a6 : Int32) (a7 : Int32) (a8 : Int32) (r3 : Nat) (r4 : Nat) : List Slot := [.val (.ref 190), .val (.int a1), .val (.int a2), .val (.ref r3), .val (.ref r4), .val (.int a5), .val (.int a6), .val (.int a7), .val (.int a8)]
def lPg_columnFits_87 (a1 : Int32) (a2 : Int32) (a5 : Int32) (a6 : Int32) (a7 : Int32) (a8 : Int32) (r3 : Nat) (r4 : Nat) : List Slot := [.val (.ref 190), .val (.int a1), .val (.int a2), .val (.ref r3), .val (.ref r4), .val (.int a5), .val (.int a6), .val (.int a7), .val (.int a8)]
def lPg_columnFits_101 (a1 : Int32) (a2 : Int32) (a5 : Int32) (a6 : Int32) (a7 : Int32) (a8 : Int32) (r3 : Nat) (r4 : Nat) : List Slot := [.val (.ref 190), .val (.int a1), .val (.int a2), .val (.ref r3), .val (.ref r4), .val (.int a5), .val (.int a6), .val (.int a7), .val (.int a8)]
def lPg_columnFits_111 (a1 : Int32) (a2 : Int32) (a5 : Int32) (a6 : Int32) (a7 : Int32) (a8 : Int32) (r3 : Nat) (r4 : Nat) : List Slot := [.val (.ref 190), .val (.int a1), .val (.int a2), .val (.ref r3), .val (.ref r4), .val (.int a5), .val (.int a6), .val (.int a7), .val (.int a8)]
theorem bPg_columnFits_0 {r3 : Nat} {r4 : Nat} {a1 : Int32} {a2 : Int32} (hX : X.length = 13) (hr3 : kNf r3) (hr4 : kNf r4) (k1 : QW d mNf_classOf 0 (qen 3 [.ref r3, .int a1, .int a2]) [] (hpo X mem sw o e) (qcl d mPg_columnFits 3 6 (lPg_columnFits_6 a1 a2 r3 r4) [] P)) : QW (d + 1) mPg_columnFits 0 (qen 9 [.ref 190, .int a1, .int a2, .ref r3, .ref r4]) [] (hpo X mem sw o e) P := by
  show QW (d + 1) mPg_columnFits 0 [.val (.ref 190), .val (.int a1), .val (.int a2), .val (.ref r3), .val (.ref r4), .unset, .unset, .unset, .unset] [] (hpo X mem sw o e) P
  refine QW.aload_n dPg_columnFits_0 rfl rfl ?_
  refine QW.iload_n dPg_columnFits_1 rfl rfl ?_
  refine QW.iload_n dPg_columnFits_2 rfl rfl ?_
  exact MW.calV (as := [.int a1, .int a2]) (rest := []) hX dPg_columnFits_3 eNf_classOf lPg_59 iNf_classOf vNf_classOf rfl rfl (kNf_0 hr3) rfl rfl rfl (Nat.le_of_ble_eq_true rfl) rfl k1
theorem bPg_columnFits_6 {r3 : Nat} {r4 : Nat} {a1 : Int32} {a2 : Int32} {s0 : Int32} (hX : X.length = 13) (hr3 : kNf r3) (hr4 : kNf r4) (h1 : inx a1 4) (k2 : QW d mNf_classOf 0 (qen 3 [.ref r4, .int (mem 191 (Int32.toNatClampNeg a1)), .int a2]) [] (hpo X mem sw o e) (qcl d mPg_columnFits 17 20 (lPg_columnFits_20 a1 a2 s0 r3 r4) [] P)) : QW (d + 1) mPg_columnFits 6 (lPg_columnFits_6 a1 a2 r3 r4) [.int s0] (hpo X mem sw o e) P := by
  show QW (d + 1) mPg_columnFits 6 [.val (.ref 190), .val (.int a1), .val (.int a2), .val (.ref r3), .val (.ref r4), .unset, .unset, .unset, .unset] [.int s0] (hpo X mem sw o e) P
  refine QW.istore (ls' := [.val (.ref 190), .val (.int a1), .val (.int a2), .val (.ref r3), .val (.ref r4), .val (.int s0), .unset, .unset, .unset]) dPg_columnFits_6 rfl ?_
  refine QW.aload dPg_columnFits_8 rfl ?_
  refine QW.aload_n dPg_columnFits_10 rfl rfl ?_
  refine MW.getr (r' := 191) hX dPg_columnFits_11 fPg_9 rfl rfl (by cases sw <;> rfl) ?_
  refine QW.iload_n dPg_columnFits_14 rfl rfl ?_
  refine MW.iald hX dPg_columnFits_15 rfl h1.1 (rep_get h1.2) ?_
  refine QW.iload_n dPg_columnFits_16 rfl rfl ?_
  exact MW.calV (as := [.int (mem 191 (Int32.toNatClampNeg a1)), .int a2]) (rest := []) hX dPg_columnFits_17 eNf_classOf lPg_59 iNf_classOf vNf_classOf rfl rfl (kNf_0 hr4) rfl rfl rfl (Nat.le_of_ble_eq_true rfl) rfl k2
theorem bPg_columnFits_20 {r3 : Nat} {r4 : Nat} {a1 : Int32} {a2 : Int32} {a5 : Int32} {s0 : Int32} (hX : X.length = 13) (hr3 : kNf r3) (hr4 : kNf r4) (h1 : inx a5 27) (h2 : inx s0 27) (k3 : ((mem (r3 + 9) (Int32.toNatClampNeg a5)) = (mem (r4 + 9) (Int32.toNatClampNeg s0))) → QW d mPg_columnFits 45 (lPg_columnFits_45 a1 a2 a5 s0 0 .unset r3 r4) [] (hpo X mem sw o e) P) (k4 : (¬ (mem (r3 + 9) (Int32.toNatClampNeg a5)) = (mem (r4 + 9) (Int32.toNatClampNeg s0))) → P (.inl (some (.int 0)), (hpo X mem sw o e))) : QW d mPg_columnFits 20 (lPg_columnFits_20 a1 a2 a5 r3 r4) [.int s0] (hpo X mem sw o e) P := by
  show QW d mPg_columnFits 20 [.val (.ref 190), .val (.int a1), .val (.int a2), .val (.ref r3), .val (.ref r4), .val (.int a5), .unset, .unset, .unset] [.int s0] (hpo X mem sw o e) P
  refine QW.istore (ls' := [.val (.ref 190), .val (.int a1), .val (.int a2), .val (.ref r3), .val (.ref r4), .val (.int a5), .val (.int s0), .unset, .unset]) dPg_columnFits_20 rfl ?_
  refine QW.aload_n dPg_columnFits_22 rfl rfl ?_
  refine MW.getr (r' := (r3 + 9)) hX dPg_columnFits_23 fPg_63 (kNf_0 hr3) rfl (kNf_s9 hr3 _) ?_
  refine QW.iload dPg_columnFits_26 rfl ?_
  refine MW.iald hX dPg_columnFits_28 (kNf_9 hr3) h1.1 (rep_get h1.2) ?_
  refine QW.aload dPg_columnFits_29 rfl ?_
  refine MW.getr (r' := (r4 + 9)) hX dPg_columnFits_31 fPg_63 (kNf_0 hr4) rfl (kNf_s9 hr4 _) ?_
  refine QW.iload dPg_columnFits_34 rfl ?_
  refine MW.iald hX dPg_columnFits_36 (kNf_9 hr4) h2.1 (rep_get h2.2) ?_
  refine QW.icmp_eq (tgt := 42) dPg_columnFits_37 (by decide) (fun z0 => ?_) (fun z0 => ?_)
  · refine QW.iconst (v := 0) dPg_columnFits_42 (by decide) ?_
    refine QW.istore (ls' := [.val (.ref 190), .val (.int a1), .val (.int a2), .val (.ref r3), .val (.ref r4), .val (.int a5), .val (.int s0), .val (.int 0), .unset]) dPg_columnFits_43 rfl ?_
    exact (k3 z0)
  · refine QW.iconst (v := 0) dPg_columnFits_40 (by decide) ?_
    exact QW.iret dPg_columnFits_41 rfl rfl (k4 z0)
theorem bPg_columnFits_45 {r3 : Nat} {r4 : Nat} {a1 : Int32} {a2 : Int32} {a5 : Int32} {a6 : Int32} {a7 : Int32} {w8 : Slot} (hX : X.length = 13) (hr3 : kNf r3) (hr4 : kNf r4) (hw8 : qfr w8) (k1 : ((mem r3 7) ≤ a7) → P (.inl (some (.int 1)), (hpo X mem sw o e))) (k2 : (¬ (mem r3 7) ≤ a7) → QW d mPg_columnFits 57 (lPg_columnFits_57 a1 a2 a5 a6 a7 0 r3 r4) [] (hpo X mem sw o e) P) : QW d mPg_columnFits 45 (lPg_columnFits_45 a1 a2 a5 a6 a7 w8 r3 r4) [] (hpo X mem sw o e) P := by
  show QW d mPg_columnFits 45 [.val (.ref 190), .val (.int a1), .val (.int a2), .val (.ref r3), .val (.ref r4), .val (.int a5), .val (.int a6), .val (.int a7), w8] [] (hpo X mem sw o e) P
  refine QW.iload dPg_columnFits_45 rfl ?_
  refine QW.aload_n dPg_columnFits_47 rfl rfl ?_
  refine MW.geti hX dPg_columnFits_48 fPg_32 (kNf_0 hr3) rfl ?_
  refine QW.icmp_ge (tgt := 128) dPg_columnFits_51 (by decide) (fun z0 => ?_) (fun z0 => ?_)
  · refine QW.iconst (v := 1) dPg_columnFits_128 (by decide) ?_
    exact QW.iret dPg_columnFits_129 rfl rfl (k1 z0)
  · refine QW.iconst (v := 0) dPg_columnFits_54 (by decide) ?_
    refine QW.istore (ls' := [.val (.ref 190), .val (.int a1), .val (.int a2), .val (.ref r3), .val (.ref r4), .val (.int a5), .val (.int a6), .val (.int a7), .val (.int 0)]) dPg_columnFits_55 (by rcases hw8 with z | ⟨_, z⟩ | ⟨_, z⟩ <;> subst z <;> rfl) ?_
    exact (k2 z0)
theorem bPg_columnFits_57 {r3 : Nat} {r4 : Nat} {a1 : Int32} {a2 : Int32} {a5 : Int32} {a6 : Int32} {a7 : Int32} {a8 : Int32} (hX : X.length = 13) (hr3 : kNf r3) (hr4 : kNf r4) (h1 : inx a7 4) (k2 : ((mem (r3 + 6) (Int32.toNatClampNeg a7)) ≤ a8) → QW (d + 1) mPg_columnFits 45 (lPg_columnFits_45 a1 a2 a5 a6 (a7 + 1) (.val (.int a8)) r3 r4) [] (hpo X mem sw o e) P) (k3 : (¬ (mem (r3 + 6) (Int32.toNatClampNeg a7)) ≤ a8) → QW d mNf_classOf 0 (qen 3 [.ref r3, .int a7, .int a8]) [] (hpo X mem sw o e) (qcl d mPg_columnFits 74 77 (lPg_columnFits_77 a1 a2 a5 a6 a7 a8 r3 r4) [] P)) : QW (d + 1) mPg_columnFits 57 (lPg_columnFits_57 a1 a2 a5 a6 a7 a8 r3 r4) [] (hpo X mem sw o e) P := by
  show QW (d + 1) mPg_columnFits 57 [.val (.ref 190), .val (.int a1), .val (.int a2), .val (.ref r3), .val (.ref r4), .val (.int a5), .val (.int a6), .val (.int a7), .val (.int a8)] [] (hpo X mem sw o e) P
  refine QW.iload dPg_columnFits_57 rfl ?_
  refine QW.aload_n dPg_columnFits_59 rfl rfl ?_
  refine MW.getr (r' := (r3 + 6)) hX dPg_columnFits_60 fPg_52 (kNf_0 hr3) rfl (kNf_s6 hr3 _) ?_
  refine QW.iload dPg_columnFits_63 rfl ?_
  refine MW.iald hX dPg_columnFits_65 (kNf_6 hr3) h1.1 (rep_get h1.2) ?_
  refine QW.icmp_ge (tgt := 122) dPg_columnFits_66 (by decide) (fun z0 => ?_) (fun z0 => ?_)
  · refine MW.iinc (c := 1) (ls' := [.val (.ref 190), .val (.int a1), .val (.int a2), .val (.ref r3), .val (.ref r4), .val (.int a5), .val (.int a6), .val (.int (a7 + 1)), .val (.int a8)]) dPg_columnFits_122 (by decide) rfl rfl ?_
    refine QW.goto (tgt := 45) dPg_columnFits_125 (by decide) ?_
    exact (k2 z0)
  · refine QW.aload_n dPg_columnFits_69 rfl rfl ?_
    refine QW.iload dPg_columnFits_70 rfl ?_
    refine QW.iload dPg_columnFits_72 rfl ?_
    exact MW.calV (as := [.int a7, .int a8]) (rest := []) hX dPg_columnFits_74 eNf_classOf lPg_59 iNf_classOf vNf_classOf rfl rfl (kNf_0 hr3) rfl rfl rfl (Nat.le_of_ble_eq_true rfl) rfl (k3 z0)
theorem bPg_columnFits_77 {r3 : Nat} {r4 : Nat} {a1 : Int32} {a2 : Int32} {a5 : Int32} {a6 : Int32} {a7 : Int32} {a8 : Int32} {s0 : Int32} (hX : X.length = 13) (hr3 : kNf r3) (hr4 : kNf r4) (k1 : (¬ s0 = a5) → QW d mPg_columnFits 87 (lPg_columnFits_87 a1 a2 a5 a6 a7 a8 r3 r4) [.int 0] (hpo X mem sw o e) P) (k2 : (s0 = a5) → QW d mPg_columnFits 87 (lPg_columnFits_87 a1 a2 a5 a6 a7 a8 r3 r4) [.int 1] (hpo X mem sw o e) P) : QW d mPg_columnFits 77 (lPg_columnFits_77 a1 a2 a5 a6 a7 a8 r3 r4) [.int s0] (hpo X mem sw o e) P := by
  show QW d mPg_columnFits 77 [.val (.ref 190), .val (.int a1), .val (.int a2), .val (.ref r3), .val (.ref r4), .val (.int a5), .val (.int a6), .val (.int a7), .val (.int a8)] [.int s0] (hpo X mem sw o e) P
  refine QW.iload dPg_columnFits_77 rfl ?_
  refine QW.icmp_ne (tgt := 86) dPg_columnFits_79 (by decide) (fun z0 => ?_) (fun z0 => ?_)
  · refine QW.iconst (v := 0) dPg_columnFits_86 (by decide) ?_
    exact (k1 z0)
  · refine QW.iconst (v := 1) dPg_columnFits_82 (by decide) ?_
    refine QW.goto (tgt := 87) dPg_columnFits_83 (by decide) ?_
    exact (k2 z0)
theorem bPg_columnFits_87 {r3 : Nat} {r4 : Nat} {a1 : Int32} {a2 : Int32} {a5 : Int32} {a6 : Int32} {a7 : Int32} {a8 : Int32} {s0 : Int32} (hX : X.length = 13) (hr3 : kNf r3) (hr4 : kNf r4) (h1 : inx a7 4) (k2 : QW d mNf_classOf 0 (qen 3 [.ref r4, .int (mem 191 (Int32.toNatClampNeg a7)), .int a8]) [] (hpo X mem sw o e) (qcl d mPg_columnFits 98 101 (lPg_columnFits_101 a1 a2 a5 a6 a7 a8 r3 r4) [.int s0] P)) : QW (d + 1) mPg_columnFits 87 (lPg_columnFits_87 a1 a2 a5 a6 a7 a8 r3 r4) [.int s0] (hpo X mem sw o e) P := by
  show QW (d + 1) mPg_columnFits 87 [.val (.ref 190), .val (.int a1), .val (.int a2), .val (.ref r3), .val (.ref r4), .val (.int a5), .val (.int a6), .val (.int a7), .val (.int a8)] [.int s0] (hpo X mem sw o e) P
  refine QW.aload dPg_columnFits_87 rfl ?_
  refine QW.aload_n dPg_columnFits_89 rfl rfl ?_
  refine MW.getr (r' := 191) hX dPg_columnFits_90 fPg_9 rfl rfl (by cases sw <;> rfl) ?_
  refine QW.iload dPg_columnFits_93 rfl ?_
  refine MW.iald hX dPg_columnFits_95 rfl h1.1 (rep_get h1.2) ?_
  refine QW.iload dPg_columnFits_96 rfl ?_
  exact MW.calV (as := [.int (mem 191 (Int32.toNatClampNeg a7)), .int a8]) (rest := [.int s0]) hX dPg_columnFits_98 eNf_classOf lPg_59 iNf_classOf vNf_classOf rfl rfl (kNf_0 hr4) rfl rfl rfl (Nat.le_of_ble_eq_true rfl) rfl k2
theorem bPg_columnFits_101 {r3 : Nat} {r4 : Nat} {a1 : Int32} {a2 : Int32} {a5 : Int32} {a6 : Int32} {a7 : Int32} {a8 : Int32} {s1 : Int32} {s0 : Int32} (hX : X.length = 13) (hr3 : kNf r3) (hr4 : kNf r4) (k1 : (¬ s1 = a6) → QW d mPg_columnFits 111 (lPg_columnFits_111 a1 a2 a5 a6 a7 a8 r3 r4) [.int 0, .int s0] (hpo X mem sw o e) P) (k2 : (s1 = a6) → QW d mPg_columnFits 111 (lPg_columnFits_111 a1 a2 a5 a6 a7 a8 r3 r4) [.int 1, .int s0] (hpo X mem sw o e) P) : QW d mPg_columnFits 101 (lPg_columnFits_101 a1 a2 a5 a6 a7 a8 r3 r4) [.int s1, .int s0] (hpo X mem sw o e) P := by
  show QW d mPg_columnFits 101 [.val (.ref 190), .val (.int a1), .val (.int a2), .val (.ref r3), .val (.ref r4), .val (.int a5), .val (.int a6), .val (.int a7), .val (.int a8)] [.int s1, .int s0] (hpo X mem sw o e) P
  refine QW.iload dPg_columnFits_101 rfl ?_
  refine QW.icmp_ne (tgt := 110) dPg_columnFits_103 (by decide) (fun z0 => ?_) (fun z0 => ?_)
  · refine QW.iconst (v := 0) dPg_columnFits_110 (by decide) ?_
    exact (k1 z0)
  · refine QW.iconst (v := 1) dPg_columnFits_106 (by decide) ?_
    refine QW.goto (tgt := 111) dPg_columnFits_107 (by decide) ?_
    exact (k2 z0)
theorem bPg_columnFits_111 {r3 : Nat} {r4 : Nat} {a1 : Int32} {a2 : Int32} {a5 : Int32} {a6 : Int32} {a7 : Int32} {a8 : Int32} {s1 : Int32} {s0 : Int32} (hX : X.length = 13) (hr3 : kNf r3) (hr4 : kNf r4) (k1 : (s0 = s1) → QW d mPg_columnFits 57 (lPg_columnFits_57 a1 a2 a5 a6 a7 (a8 + 1) r3 r4) [] (hpo X mem sw o e) P) (k2 : (¬ s0 = s1) → P (.inl (some (.int 0)), (hpo X mem sw o e))) : QW d mPg_columnFits 111 (lPg_columnFits_111 a1 a2 a5 a6 a7 a8 r3 r4) [.int s1, .int s0] (hpo X mem sw o e) P := by
  show QW d mPg_columnFits 111 [.val (.ref 190), .val (.int a1), .val (.int a2), .val (.ref r3), .val (.ref r4), .val (.int a5), .val (.int a6), .val (.int a7), .val (.int a8)] [.int s1, .int s0] (hpo X mem sw o e) P
  refine QW.icmp_eq (tgt := 116) dPg_columnFits_111 (by decide) (fun z0 => ?_) (fun z0 => ?_)
  · refine MW.iinc (c := 1) (ls' := [.val (.ref 190), .val (.int a1), .val (.int a2), .val (.ref r3), .val (.ref r4), .val (.int a5), .val (.int a6), .val (.int a7), .val (.int (a8 + 1))]) dPg_columnFits_116 (by decide) rfl rfl ?_
    refine QW.goto (tgt := 57) dPg_columnFits_119 (by decide) ?_
    exact (k1 z0)
  · refine QW.iconst (v := 0) dPg_columnFits_114 (by decide) ?_
    exact QW.iret dPg_columnFits_115 rfl rfl (k2 z0)
theorem dPg_outputsFit_0 : decode mPg_outputsFit.2.1 0 = .ok (.iconst 0, 1) := by decide +kernel
theorem dPg_outputsFit_1 : decode mPg_outputsFit.2.1 1 = .ok (.istore_n 3, 1) := by decide +kernel
theorem dPg_outputsFit_2 : decode mPg_outputsFit.2.1 2 = .ok (.iload_n 3, 1) := by decide +kernel
theorem dPg_outputsFit_3 : decode mPg_outputsFit.2.1 3 = .ok (.aload_n 1, 1) := by decide +kernel
theorem dPg_outputsFit_4 : decode mPg_outputsFit.2.1 4 = .ok (.getfield 25, 3) := by decide +kernel
theorem dPg_outputsFit_7 : decode mPg_outputsFit.2.1 7 = .ok (.if_icmp .ge 32, 3) := by decide +kernel
theorem dPg_outputsFit_10 : decode mPg_outputsFit.2.1 10 = .ok (.aload_n 0, 1) := by decide +kernel
theorem dPg_outputsFit_11 : decode mPg_outputsFit.2.1 11 = .ok (.aload_n 1, 1) := by decide +kernel
theorem dPg_outputsFit_12 : decode mPg_outputsFit.2.1 12 = .ok (.getfield 66, 3) := by decide +kernel
theorem dPg_outputsFit_15 : decode mPg_outputsFit.2.1 15 = .ok (.iload_n 3, 1) := by decide +kernel
theorem dPg_outputsFit_16 : decode mPg_outputsFit.2.1 16 = .ok (.iaload, 1) := by decide +kernel
theorem dPg_outputsFit_17 : decode mPg_outputsFit.2.1 17 = .ok (.aload_n 2, 1) := by decide +kernel
theorem dPg_outputsFit_18 : decode mPg_outputsFit.2.1 18 = .ok (.getfield 66, 3) := by decide +kernel
theorem dPg_outputsFit_21 : decode mPg_outputsFit.2.1 21 = .ok (.iload_n 3, 1) := by decide +kernel
theorem dPg_outputsFit_22 : decode mPg_outputsFit.2.1 22 = .ok (.iaload, 1) := by decide +kernel
theorem dPg_outputsFit_23 : decode mPg_outputsFit.2.1 23 = .ok (.aload_n 1, 1) := by decide +kernel
theorem dPg_outputsFit_24 : decode mPg_outputsFit.2.1 24 = .ok (.aload_n 2, 1) := by decide +kernel
theorem dPg_outputsFit_25 : decode mPg_outputsFit.2.1 25 = .ok (.invokevirtual 69, 3) := by decide +kernel
theorem dPg_outputsFit_28 : decode mPg_outputsFit.2.1 28 = .ok (.ifCond .ne 5, 3) := by decide +kernel
theorem dPg_outputsFit_31 : decode mPg_outputsFit.2.1 31 = .ok (.iconst 0, 1) := by decide +kernel
theorem dPg_outputsFit_32 : decode mPg_outputsFit.2.1 32 = .ok (.ireturn, 1) := by decide +kernel
theorem dPg_outputsFit_33 : decode mPg_outputsFit.2.1 33 = .ok (.iinc 3 1, 3) := by decide +kernel
theorem dPg_outputsFit_36 : decode mPg_outputsFit.2.1 36 = .ok (.goto (-34), 3) := by decide +kernel
theorem dPg_outputsFit_39 : decode mPg_outputsFit.2.1 39 = .ok (.iconst 1, 1) := by decide +kernel
theorem dPg_outputsFit_40 : decode mPg_outputsFit.2.1 40 = .ok (.ireturn, 1) := by decide +kernel
def lPg_outputsFit_2 (a3 : Int32) (r1 : Nat) (r2 : Nat) : List Slot := [.val (.ref 190), .val (.ref r1), .val (.ref r2), .val (.int a3)]
def lPg_outputsFit_28 (a3 : Int32) (r1 : Nat) (r2 : Nat) : List Slot := [.val (.ref 190), .val (.ref r1), .val (.ref r2), .val (.int a3)]
theorem bPg_outputsFit_0 {r1 : Nat} {r2 : Nat} (hX : X.length = 13) (hr1 : kNf r1) (hr2 : kNf r2) (k1 : QW d mPg_outputsFit 2 (lPg_outputsFit_2 0 r1 r2) [] (hpo X mem sw o e) P) : QW d mPg_outputsFit 0 (qen 4 [.ref 190, .ref r1, .ref r2]) [] (hpo X mem sw o e) P := by
  show QW d mPg_outputsFit 0 [.val (.ref 190), .val (.ref r1), .val (.ref r2), .unset] [] (hpo X mem sw o e) P
  refine QW.iconst (v := 0) dPg_outputsFit_0 (by decide) ?_
  refine QW.istore_n (ls' := [.val (.ref 190), .val (.ref r1), .val (.ref r2), .val (.int 0)]) dPg_outputsFit_1 rfl rfl ?_
  exact k1
theorem bPg_outputsFit_2 {r1 : Nat} {r2 : Nat} {a3 : Int32} (hX : X.length = 13) (hr1 : kNf r1) (hr2 : kNf r2) (k1 : ((mem r1 2) ≤ a3) → P (.inl (some (.int 1)), (hpo X mem sw o e))) (h2 : (¬ (mem r1 2) ≤ a3) → inx a3 3) (h3 : (¬ (mem r1 2) ≤ a3) → inx a3 3) (k4 : (¬ (mem r1 2) ≤ a3) → QW d mPg_arePaired 0 (qen 7 [.ref 190, .int (mem (r1 + 1) (Int32.toNatClampNeg a3)), .int (mem (r2 + 1) (Int32.toNatClampNeg a3)), .ref r1, .ref r2]) [] (hpo X mem sw o e) (qcl d mPg_outputsFit 25 28 (lPg_outputsFit_28 a3 r1 r2) [] P)) : QW (d + 1) mPg_outputsFit 2 (lPg_outputsFit_2 a3 r1 r2) [] (hpo X mem sw o e) P := by
  show QW (d + 1) mPg_outputsFit 2 [.val (.ref 190), .val (.ref r1), .val (.ref r2), .val (.int a3)] [] (hpo X mem sw o e) P
  refine QW.iload_n dPg_outputsFit_2 rfl rfl ?_
  refine QW.aload_n dPg_outputsFit_3 rfl rfl ?_
  refine MW.geti hX dPg_outputsFit_4 fPg_25 (kNf_0 hr1) rfl ?_
  refine QW.icmp_ge (tgt := 39) dPg_outputsFit_7 (by decide) (fun z0 => ?_) (fun z0 => ?_)
  · refine QW.iconst (v := 1) dPg_outputsFit_39 (by decide) ?_
    exact QW.iret dPg_outputsFit_40 rfl rfl (k1 z0)
  · refine QW.aload_n dPg_outputsFit_10 rfl rfl ?_
    refine QW.aload_n dPg_outputsFit_11 rfl rfl ?_
    refine MW.getr (r' := (r1 + 1)) hX dPg_outputsFit_12 fPg_66 (kNf_0 hr1) rfl (kNf_s1 hr1 _) ?_
    refine QW.iload_n dPg_outputsFit_15 rfl rfl ?_
    refine MW.iald hX dPg_outputsFit_16 (kNf_1 hr1) (h2 z0).1 (rep_get (h2 z0).2) ?_
    refine QW.aload_n dPg_outputsFit_17 rfl rfl ?_
    refine MW.getr (r' := (r2 + 1)) hX dPg_outputsFit_18 fPg_66 (kNf_0 hr2) rfl (kNf_s1 hr2 _) ?_
    refine QW.iload_n dPg_outputsFit_21 rfl rfl ?_
    refine MW.iald hX dPg_outputsFit_22 (kNf_1 hr2) (h3 z0).1 (rep_get (h3 z0).2) ?_
    refine QW.aload_n dPg_outputsFit_23 rfl rfl ?_
    refine QW.aload_n dPg_outputsFit_24 rfl rfl ?_
    exact MW.calV (as := [.int (mem (r1 + 1) (Int32.toNatClampNeg a3)), .int (mem (r2 + 1) (Int32.toNatClampNeg a3)), .ref r1, .ref r2]) (rest := []) hX dPg_outputsFit_25 ePg_arePaired lPg_69 iPg_arePaired vPg_arePaired rfl rfl rfl rfl rfl rfl (Nat.le_of_ble_eq_true rfl) rfl (k4 z0)
theorem bPg_outputsFit_28 {r1 : Nat} {r2 : Nat} {a3 : Int32} {s0 : Int32} (hX : X.length = 13) (hr1 : kNf r1) (hr2 : kNf r2) (k1 : (¬ s0 = 0) → QW d mPg_outputsFit 2 (lPg_outputsFit_2 (a3 + 1) r1 r2) [] (hpo X mem sw o e) P) (k2 : (s0 = 0) → P (.inl (some (.int 0)), (hpo X mem sw o e))) : QW d mPg_outputsFit 28 (lPg_outputsFit_28 a3 r1 r2) [.int s0] (hpo X mem sw o e) P := by
  show QW d mPg_outputsFit 28 [.val (.ref 190), .val (.ref r1), .val (.ref r2), .val (.int a3)] [.int s0] (hpo X mem sw o e) P
  refine QW.if_ne (tgt := 33) dPg_outputsFit_28 (by decide) (fun z0 => ?_) (fun z0 => ?_)
  · refine MW.iinc (c := 1) (ls' := [.val (.ref 190), .val (.ref r1), .val (.ref r2), .val (.int (a3 + 1))]) dPg_outputsFit_33 (by decide) rfl rfl ?_
    refine QW.goto (tgt := 2) dPg_outputsFit_36 (by decide) ?_
    exact (k1 z0)
  · refine QW.iconst (v := 0) dPg_outputsFit_31 (by decide) ?_
    exact QW.iret dPg_outputsFit_32 rfl rfl (k2 z0)
theorem dPg_lessFits_0 : decode mPg_lessFits.2.1 0 = .ok (.iconst 0, 1) := by decide +kernel
theorem dPg_lessFits_1 : decode mPg_lessFits.2.1 1 = .ok (.istore_n 3, 1) := by decide +kernel
theorem dPg_lessFits_2 : decode mPg_lessFits.2.1 2 = .ok (.iload_n 3, 1) := by decide +kernel
theorem dPg_lessFits_3 : decode mPg_lessFits.2.1 3 = .ok (.aload_n 1, 1) := by decide +kernel
theorem dPg_lessFits_4 : decode mPg_lessFits.2.1 4 = .ok (.getfield 72, 3) := by decide +kernel
theorem dPg_lessFits_7 : decode mPg_lessFits.2.1 7 = .ok (.if_icmp .ge 61, 3) := by decide +kernel
theorem dPg_lessFits_10 : decode mPg_lessFits.2.1 10 = .ok (.iconst 0, 1) := by decide +kernel
theorem dPg_lessFits_11 : decode mPg_lessFits.2.1 11 = .ok (.istore 4, 2) := by decide +kernel
theorem dPg_lessFits_13 : decode mPg_lessFits.2.1 13 = .ok (.iconst 0, 1) := by decide +kernel
theorem dPg_lessFits_14 : decode mPg_lessFits.2.1 14 = .ok (.istore 5, 2) := by decide +kernel
theorem dPg_lessFits_16 : decode mPg_lessFits.2.1 16 = .ok (.iload 5, 2) := by decide +kernel
theorem dPg_lessFits_18 : decode mPg_lessFits.2.1 18 = .ok (.aload_n 2, 1) := by decide +kernel
theorem dPg_lessFits_19 : decode mPg_lessFits.2.1 19 = .ok (.getfield 72, 3) := by decide +kernel
theorem dPg_lessFits_22 : decode mPg_lessFits.2.1 22 = .ok (.if_icmp .ge 33, 3) := by decide +kernel
theorem dPg_lessFits_25 : decode mPg_lessFits.2.1 25 = .ok (.iload 4, 2) := by decide +kernel
theorem dPg_lessFits_27 : decode mPg_lessFits.2.1 27 = .ok (.ifCond .ne 15, 3) := by decide +kernel
theorem dPg_lessFits_30 : decode mPg_lessFits.2.1 30 = .ok (.aload_n 0, 1) := by decide +kernel
theorem dPg_lessFits_31 : decode mPg_lessFits.2.1 31 = .ok (.iload_n 3, 1) := by decide +kernel
theorem dPg_lessFits_32 : decode mPg_lessFits.2.1 32 = .ok (.iload 5, 2) := by decide +kernel
theorem dPg_lessFits_34 : decode mPg_lessFits.2.1 34 = .ok (.aload_n 1, 1) := by decide +kernel
theorem dPg_lessFits_35 : decode mPg_lessFits.2.1 35 = .ok (.aload_n 2, 1) := by decide +kernel
theorem dPg_lessFits_36 : decode mPg_lessFits.2.1 36 = .ok (.invokevirtual 75, 3) := by decide +kernel
theorem dPg_lessFits_39 : decode mPg_lessFits.2.1 39 = .ok (.ifCond .eq 7, 3) := by decide +kernel
theorem dPg_lessFits_42 : decode mPg_lessFits.2.1 42 = .ok (.iconst 1, 1) := by decide +kernel
theorem dPg_lessFits_43 : decode mPg_lessFits.2.1 43 = .ok (.goto 4, 3) := by decide +kernel
theorem dPg_lessFits_46 : decode mPg_lessFits.2.1 46 = .ok (.iconst 0, 1) := by decide +kernel
theorem dPg_lessFits_47 : decode mPg_lessFits.2.1 47 = .ok (.istore 4, 2) := by decide +kernel
theorem dPg_lessFits_49 : decode mPg_lessFits.2.1 49 = .ok (.iinc 5 1, 3) := by decide +kernel
theorem dPg_lessFits_52 : decode mPg_lessFits.2.1 52 = .ok (.goto (-36), 3) := by decide +kernel
theorem dPg_lessFits_55 : decode mPg_lessFits.2.1 55 = .ok (.iload 4, 2) := by decide +kernel
theorem dPg_lessFits_57 : decode mPg_lessFits.2.1 57 = .ok (.ifCond .ne 5, 3) := by decide +kernel
theorem dPg_lessFits_60 : decode mPg_lessFits.2.1 60 = .ok (.iconst 0, 1) := by decide +kernel
theorem dPg_lessFits_61 : decode mPg_lessFits.2.1 61 = .ok (.ireturn, 1) := by decide +kernel
theorem dPg_lessFits_62 : decode mPg_lessFits.2.1 62 = .ok (.iinc 3 1, 3) := by decide +kernel
theorem dPg_lessFits_65 : decode mPg_lessFits.2.1 65 = .ok (.goto (-63), 3) := by decide +kernel
theorem dPg_lessFits_68 : decode mPg_lessFits.2.1 68 = .ok (.iconst 0, 1) := by decide +kernel
theorem dPg_lessFits_69 : decode mPg_lessFits.2.1 69 = .ok (.istore_n 3, 1) := by decide +kernel
theorem dPg_lessFits_70 : decode mPg_lessFits.2.1 70 = .ok (.iload_n 3, 1) := by decide +kernel
theorem dPg_lessFits_71 : decode mPg_lessFits.2.1 71 = .ok (.aload_n 2, 1) := by decide +kernel
theorem dPg_lessFits_72 : decode mPg_lessFits.2.1 72 = .ok (.getfield 72, 3) := by decide +kernel
theorem dPg_lessFits_75 : decode mPg_lessFits.2.1 75 = .ok (.if_icmp .ge 61, 3) := by decide +kernel
theorem dPg_lessFits_78 : decode mPg_lessFits.2.1 78 = .ok (.iconst 0, 1) := by decide +kernel
theorem dPg_lessFits_79 : decode mPg_lessFits.2.1 79 = .ok (.istore 4, 2) := by decide +kernel
theorem dPg_lessFits_81 : decode mPg_lessFits.2.1 81 = .ok (.iconst 0, 1) := by decide +kernel
theorem dPg_lessFits_82 : decode mPg_lessFits.2.1 82 = .ok (.istore 5, 2) := by decide +kernel
theorem dPg_lessFits_84 : decode mPg_lessFits.2.1 84 = .ok (.iload 5, 2) := by decide +kernel
theorem dPg_lessFits_86 : decode mPg_lessFits.2.1 86 = .ok (.aload_n 1, 1) := by decide +kernel
theorem dPg_lessFits_87 : decode mPg_lessFits.2.1 87 = .ok (.getfield 72, 3) := by decide +kernel
theorem dPg_lessFits_90 : decode mPg_lessFits.2.1 90 = .ok (.if_icmp .ge 33, 3) := by decide +kernel
theorem dPg_lessFits_93 : decode mPg_lessFits.2.1 93 = .ok (.iload 4, 2) := by decide +kernel
theorem dPg_lessFits_95 : decode mPg_lessFits.2.1 95 = .ok (.ifCond .ne 15, 3) := by decide +kernel
theorem dPg_lessFits_98 : decode mPg_lessFits.2.1 98 = .ok (.aload_n 0, 1) := by decide +kernel
theorem dPg_lessFits_99 : decode mPg_lessFits.2.1 99 = .ok (.iload 5, 2) := by decide +kernel
theorem dPg_lessFits_101 : decode mPg_lessFits.2.1 101 = .ok (.iload_n 3, 1) := by decide +kernel
theorem dPg_lessFits_102 : decode mPg_lessFits.2.1 102 = .ok (.aload_n 1, 1) := by decide +kernel
theorem dPg_lessFits_103 : decode mPg_lessFits.2.1 103 = .ok (.aload_n 2, 1) := by decide +kernel
theorem dPg_lessFits_104 : decode mPg_lessFits.2.1 104 = .ok (.invokevirtual 75, 3) := by decide +kernel
theorem dPg_lessFits_107 : decode mPg_lessFits.2.1 107 = .ok (.ifCond .eq 7, 3) := by decide +kernel
theorem dPg_lessFits_110 : decode mPg_lessFits.2.1 110 = .ok (.iconst 1, 1) := by decide +kernel
theorem dPg_lessFits_111 : decode mPg_lessFits.2.1 111 = .ok (.goto 4, 3) := by decide +kernel
theorem dPg_lessFits_114 : decode mPg_lessFits.2.1 114 = .ok (.iconst 0, 1) := by decide +kernel
theorem dPg_lessFits_115 : decode mPg_lessFits.2.1 115 = .ok (.istore 4, 2) := by decide +kernel
theorem dPg_lessFits_117 : decode mPg_lessFits.2.1 117 = .ok (.iinc 5 1, 3) := by decide +kernel
theorem dPg_lessFits_120 : decode mPg_lessFits.2.1 120 = .ok (.goto (-36), 3) := by decide +kernel
theorem dPg_lessFits_123 : decode mPg_lessFits.2.1 123 = .ok (.iload 4, 2) := by decide +kernel
theorem dPg_lessFits_125 : decode mPg_lessFits.2.1 125 = .ok (.ifCond .ne 5, 3) := by decide +kernel
theorem dPg_lessFits_128 : decode mPg_lessFits.2.1 128 = .ok (.iconst 0, 1) := by decide +kernel
theorem dPg_lessFits_129 : decode mPg_lessFits.2.1 129 = .ok (.ireturn, 1) := by decide +kernel
theorem dPg_lessFits_130 : decode mPg_lessFits.2.1 130 = .ok (.iinc 3 1, 3) := by decide +kernel
theorem dPg_lessFits_133 : decode mPg_lessFits.2.1 133 = .ok (.goto (-63), 3) := by decide +kernel
theorem dPg_lessFits_136 : decode mPg_lessFits.2.1 136 = .ok (.iconst 1, 1) := by decide +kernel
theorem dPg_lessFits_137 : decode mPg_lessFits.2.1 137 = .ok (.ireturn, 1) := by decide +kernel
def lPg_lessFits_2 (a3 : Int32) (w4 : Slot) (w5 : Slot) (r1 : Nat) (r2 : Nat) : List Slot := [.val (.ref 190), .val (.ref r1), .val (.ref r2), .val (.int a3), w4, w5]
def lPg_lessFits_16 (a3 : Int32) (a4 : Int32) (a5 : Int32) (r1 : Nat) (r2 : Nat) : List Slot := [.val (.ref 190), .val (.ref r1), .val (.ref r2), .val (.int a3), .val (.int a4), .val (.int a5)]
def lPg_lessFits_39 (a3 : Int32) (a4 : Int32) (a5 : Int32) (r1 : Nat) (r2 : Nat) : List Slot := [.val (.ref 190), .val (.ref r1), .val (.ref r2), .val (.int a3), .val (.int a4), .val (.int a5)]
def lPg_lessFits_42 (a3 : Int32) (a4 : Int32) (a5 : Int32) (r1 : Nat) (r2 : Nat) : List Slot := [.val (.ref 190), .val (.ref r1), .val (.ref r2), .val (.int a3), .val (.int a4), .val (.int a5)]
def lPg_lessFits_47 (a3 : Int32) (a4 : Int32) (a5 : Int32) (r1 : Nat) (r2 : Nat) : List Slot := [.val (.ref 190), .val (.ref r1), .val (.ref r2), .val (.int a3), .val (.int a4), .val (.int a5)]
def lPg_lessFits_70 (a3 : Int32) (w4 : Slot) (w5 : Slot) (r1 : Nat) (r2 : Nat) : List Slot := [.val (.ref 190), .val (.ref r1), .val (.ref r2), .val (.int a3), w4, w5]
def lPg_lessFits_84 (a3 : Int32) (a4 : Int32) (a5 : Int32) (r1 : Nat) (r2 : Nat) : List Slot := [.val (.ref 190), .val (.ref r1), .val (.ref r2), .val (.int a3), .val (.int a4), .val (.int a5)]
def lPg_lessFits_107 (a3 : Int32) (a4 : Int32) (a5 : Int32) (r1 : Nat) (r2 : Nat) : List Slot := [.val (.ref 190), .val (.ref r1), .val (.ref r2), .val (.int a3), .val (.int a4), .val (.int a5)]
def lPg_lessFits_110 (a3 : Int32) (a4 : Int32) (a5 : Int32) (r1 : Nat) (r2 : Nat) : List Slot := [.val (.ref 190), .val (.ref r1), .val (.ref r2), .val (.int a3), .val (.int a4), .val (.int a5)]
def lPg_lessFits_115 (a3 : Int32) (a4 : Int32) (a5 : Int32) (r1 : Nat) (r2 : Nat) : List Slot := [.val (.ref 190), .val (.ref r1), .val (.ref r2), .val (.int a3), .val (.int a4), .val (.int a5)]
theorem bPg_lessFits_0 {r1 : Nat} {r2 : Nat} (hX : X.length = 13) (hr1 : kNf r1) (hr2 : kNf r2) (k1 : QW d mPg_lessFits 2 (lPg_lessFits_2 0 .unset .unset r1 r2) [] (hpo X mem sw o e) P) : QW d mPg_lessFits 0 (qen 6 [.ref 190, .ref r1, .ref r2]) [] (hpo X mem sw o e) P := by
  show QW d mPg_lessFits 0 [.val (.ref 190), .val (.ref r1), .val (.ref r2), .unset, .unset, .unset] [] (hpo X mem sw o e) P
  refine QW.iconst (v := 0) dPg_lessFits_0 (by decide) ?_
  refine QW.istore_n (ls' := [.val (.ref 190), .val (.ref r1), .val (.ref r2), .val (.int 0), .unset, .unset]) dPg_lessFits_1 rfl rfl ?_
  exact k1
theorem bPg_lessFits_2 {r1 : Nat} {r2 : Nat} {a3 : Int32} {w4 : Slot} {w5 : Slot} (hX : X.length = 13) (hr1 : kNf r1) (hr2 : kNf r2) (hw4 : qfr w4) (hw5 : qfr w5) (k1 : ((mem r1 4) ≤ a3) → QW d mPg_lessFits 70 (lPg_lessFits_70 0 w4 w5 r1 r2) [] (hpo X mem sw o e) P) (k2 : (¬ (mem r1 4) ≤ a3) → QW d mPg_lessFits 16 (lPg_lessFits_16 a3 0 0 r1 r2) [] (hpo X mem sw o e) P) : QW d mPg_lessFits 2 (lPg_lessFits_2 a3 w4 w5 r1 r2) [] (hpo X mem sw o e) P := by
  show QW d mPg_lessFits 2 [.val (.ref 190), .val (.ref r1), .val (.ref r2), .val (.int a3), w4, w5] [] (hpo X mem sw o e) P
  refine QW.iload_n dPg_lessFits_2 rfl rfl ?_
  refine QW.aload_n dPg_lessFits_3 rfl rfl ?_
  refine MW.geti hX dPg_lessFits_4 fPg_72 (kNf_0 hr1) rfl ?_
  refine QW.icmp_ge (tgt := 68) dPg_lessFits_7 (by decide) (fun z0 => ?_) (fun z0 => ?_)
  · refine QW.iconst (v := 0) dPg_lessFits_68 (by decide) ?_
    refine QW.istore_n (ls' := [.val (.ref 190), .val (.ref r1), .val (.ref r2), .val (.int 0), w4, w5]) dPg_lessFits_69 rfl rfl ?_
    exact (k1 z0)
  · refine QW.iconst (v := 0) dPg_lessFits_10 (by decide) ?_
    refine QW.istore (ls' := [.val (.ref 190), .val (.ref r1), .val (.ref r2), .val (.int a3), .val (.int 0), w5]) dPg_lessFits_11 (by rcases hw4 with z | ⟨_, z⟩ | ⟨_, z⟩ <;> subst z <;> rfl) ?_
    refine QW.iconst (v := 0) dPg_lessFits_13 (by decide) ?_
    refine QW.istore (ls' := [.val (.ref 190), .val (.ref r1), .val (.ref r2), .val (.int a3), .val (.int 0), .val (.int 0)]) dPg_lessFits_14 (by rcases hw5 with z | ⟨_, z⟩ | ⟨_, z⟩ <;> subst z <;> rfl) ?_
    exact (k2 z0)
theorem bPg_lessFits_16 {r1 : Nat} {r2 : Nat} {a3 : Int32} {a4 : Int32} {a5 : Int32} (hX : X.length = 13) (hr1 : kNf r1) (hr2 : kNf r2) (k1 : ((mem r2 4) ≤ a5) → (¬ a4 = 0) → QW (d + 1) mPg_lessFits 2 (lPg_lessFits_2 (a3 + 1) (.val (.int a4)) (.val (.int a5)) r1 r2) [] (hpo X mem sw o e) P) (k2 : ((mem r2 4) ≤ a5) → (a4 = 0) → P (.inl (some (.int 0)), (hpo X mem sw o e))) (k3 : (¬ (mem r2 4) ≤ a5) → (¬ a4 = 0) → QW (d + 1) mPg_lessFits 42 (lPg_lessFits_42 a3 a4 a5 r1 r2) [] (hpo X mem sw o e) P) (k4 : (¬ (mem r2 4) ≤ a5) → (a4 = 0) → QW d mPg_isSameLess 0 (qen 5 [.ref 190, .int a3, .int a5, .ref r1, .ref r2]) [] (hpo X mem sw o e) (qcl d mPg_lessFits 36 39 (lPg_lessFits_39 a3 a4 a5 r1 r2) [] P)) : QW (d + 1) mPg_lessFits 16 (lPg_lessFits_16 a3 a4 a5 r1 r2) [] (hpo X mem sw o e) P := by
  show QW (d + 1) mPg_lessFits 16 [.val (.ref 190), .val (.ref r1), .val (.ref r2), .val (.int a3), .val (.int a4), .val (.int a5)] [] (hpo X mem sw o e) P
  refine QW.iload dPg_lessFits_16 rfl ?_
  refine QW.aload_n dPg_lessFits_18 rfl rfl ?_
  refine MW.geti hX dPg_lessFits_19 fPg_72 (kNf_0 hr2) rfl ?_
  refine QW.icmp_ge (tgt := 55) dPg_lessFits_22 (by decide) (fun z0 => ?_) (fun z0 => ?_)
  · refine QW.iload dPg_lessFits_55 rfl ?_
    refine QW.if_ne (tgt := 62) dPg_lessFits_57 (by decide) (fun z1 => ?_) (fun z1 => ?_)
    · refine MW.iinc (c := 1) (ls' := [.val (.ref 190), .val (.ref r1), .val (.ref r2), .val (.int (a3 + 1)), .val (.int a4), .val (.int a5)]) dPg_lessFits_62 (by decide) rfl rfl ?_
      refine QW.goto (tgt := 2) dPg_lessFits_65 (by decide) ?_
      exact (k1 z0 z1)
    · refine QW.iconst (v := 0) dPg_lessFits_60 (by decide) ?_
      exact QW.iret dPg_lessFits_61 rfl rfl (k2 z0 z1)
  · refine QW.iload dPg_lessFits_25 rfl ?_
    refine QW.if_ne (tgt := 42) dPg_lessFits_27 (by decide) (fun z1 => ?_) (fun z1 => ?_)
    · exact (k3 z0 z1)
    · refine QW.aload_n dPg_lessFits_30 rfl rfl ?_
      refine QW.iload_n dPg_lessFits_31 rfl rfl ?_
      refine QW.iload dPg_lessFits_32 rfl ?_
      refine QW.aload_n dPg_lessFits_34 rfl rfl ?_
      refine QW.aload_n dPg_lessFits_35 rfl rfl ?_
      exact MW.calV (as := [.int a3, .int a5, .ref r1, .ref r2]) (rest := []) hX dPg_lessFits_36 ePg_isSameLess lPg_75 iPg_isSameLess vPg_isSameLess rfl rfl rfl rfl rfl rfl (Nat.le_of_ble_eq_true rfl) rfl (k4 z0 z1)
theorem bPg_lessFits_39 {r1 : Nat} {r2 : Nat} {a3 : Int32} {a4 : Int32} {a5 : Int32} {s0 : Int32} (hX : X.length = 13) (hr1 : kNf r1) (hr2 : kNf r2) (k1 : (s0 = 0) → QW d mPg_lessFits 47 (lPg_lessFits_47 a3 a4 a5 r1 r2) [.int 0] (hpo X mem sw o e) P) (k2 : (¬ s0 = 0) → QW d mPg_lessFits 42 (lPg_lessFits_42 a3 a4 a5 r1 r2) [] (hpo X mem sw o e) P) : QW d mPg_lessFits 39 (lPg_lessFits_39 a3 a4 a5 r1 r2) [.int s0] (hpo X mem sw o e) P := by
  show QW d mPg_lessFits 39 [.val (.ref 190), .val (.ref r1), .val (.ref r2), .val (.int a3), .val (.int a4), .val (.int a5)] [.int s0] (hpo X mem sw o e) P
  refine QW.if_eq (tgt := 46) dPg_lessFits_39 (by decide) (fun z0 => ?_) (fun z0 => ?_)
  · refine QW.iconst (v := 0) dPg_lessFits_46 (by decide) ?_
    exact (k1 z0)
  · exact (k2 z0)
theorem bPg_lessFits_42 {r1 : Nat} {r2 : Nat} {a3 : Int32} {a4 : Int32} {a5 : Int32} (hX : X.length = 13) (hr1 : kNf r1) (hr2 : kNf r2) (k1 : QW d mPg_lessFits 47 (lPg_lessFits_47 a3 a4 a5 r1 r2) [.int 1] (hpo X mem sw o e) P) : QW d mPg_lessFits 42 (lPg_lessFits_42 a3 a4 a5 r1 r2) [] (hpo X mem sw o e) P := by
  show QW d mPg_lessFits 42 [.val (.ref 190), .val (.ref r1), .val (.ref r2), .val (.int a3), .val (.int a4), .val (.int a5)] [] (hpo X mem sw o e) P
  refine QW.iconst (v := 1) dPg_lessFits_42 (by decide) ?_
  refine QW.goto (tgt := 47) dPg_lessFits_43 (by decide) ?_
  exact k1
theorem bPg_lessFits_47 {r1 : Nat} {r2 : Nat} {a3 : Int32} {a4 : Int32} {a5 : Int32} {s0 : Int32} (hX : X.length = 13) (hr1 : kNf r1) (hr2 : kNf r2) (k1 : QW d mPg_lessFits 16 (lPg_lessFits_16 a3 s0 (a5 + 1) r1 r2) [] (hpo X mem sw o e) P) : QW d mPg_lessFits 47 (lPg_lessFits_47 a3 a4 a5 r1 r2) [.int s0] (hpo X mem sw o e) P := by
  show QW d mPg_lessFits 47 [.val (.ref 190), .val (.ref r1), .val (.ref r2), .val (.int a3), .val (.int a4), .val (.int a5)] [.int s0] (hpo X mem sw o e) P
  refine QW.istore (ls' := [.val (.ref 190), .val (.ref r1), .val (.ref r2), .val (.int a3), .val (.int s0), .val (.int a5)]) dPg_lessFits_47 rfl ?_
  refine MW.iinc (c := 1) (ls' := [.val (.ref 190), .val (.ref r1), .val (.ref r2), .val (.int a3), .val (.int s0), .val (.int (a5 + 1))]) dPg_lessFits_49 (by decide) rfl rfl ?_
  refine QW.goto (tgt := 16) dPg_lessFits_52 (by decide) ?_
  exact k1
theorem bPg_lessFits_70 {r1 : Nat} {r2 : Nat} {a3 : Int32} {w4 : Slot} {w5 : Slot} (hX : X.length = 13) (hr1 : kNf r1) (hr2 : kNf r2) (hw4 : qfr w4) (hw5 : qfr w5) (k1 : ((mem r2 4) ≤ a3) → P (.inl (some (.int 1)), (hpo X mem sw o e))) (k2 : (¬ (mem r2 4) ≤ a3) → QW d mPg_lessFits 84 (lPg_lessFits_84 a3 0 0 r1 r2) [] (hpo X mem sw o e) P) : QW d mPg_lessFits 70 (lPg_lessFits_70 a3 w4 w5 r1 r2) [] (hpo X mem sw o e) P := by
  show QW d mPg_lessFits 70 [.val (.ref 190), .val (.ref r1), .val (.ref r2), .val (.int a3), w4, w5] [] (hpo X mem sw o e) P
  refine QW.iload_n dPg_lessFits_70 rfl rfl ?_
  refine QW.aload_n dPg_lessFits_71 rfl rfl ?_
  refine MW.geti hX dPg_lessFits_72 fPg_72 (kNf_0 hr2) rfl ?_
  refine QW.icmp_ge (tgt := 136) dPg_lessFits_75 (by decide) (fun z0 => ?_) (fun z0 => ?_)
  · refine QW.iconst (v := 1) dPg_lessFits_136 (by decide) ?_
    exact QW.iret dPg_lessFits_137 rfl rfl (k1 z0)
  · refine QW.iconst (v := 0) dPg_lessFits_78 (by decide) ?_
    refine QW.istore (ls' := [.val (.ref 190), .val (.ref r1), .val (.ref r2), .val (.int a3), .val (.int 0), w5]) dPg_lessFits_79 (by rcases hw4 with z | ⟨_, z⟩ | ⟨_, z⟩ <;> subst z <;> rfl) ?_
    refine QW.iconst (v := 0) dPg_lessFits_81 (by decide) ?_
    refine QW.istore (ls' := [.val (.ref 190), .val (.ref r1), .val (.ref r2), .val (.int a3), .val (.int 0), .val (.int 0)]) dPg_lessFits_82 (by rcases hw5 with z | ⟨_, z⟩ | ⟨_, z⟩ <;> subst z <;> rfl) ?_
    exact (k2 z0)
theorem bPg_lessFits_84 {r1 : Nat} {r2 : Nat} {a3 : Int32} {a4 : Int32} {a5 : Int32} (hX : X.length = 13) (hr1 : kNf r1) (hr2 : kNf r2) (k1 : ((mem r1 4) ≤ a5) → (¬ a4 = 0) → QW (d + 1) mPg_lessFits 70 (lPg_lessFits_70 (a3 + 1) (.val (.int a4)) (.val (.int a5)) r1 r2) [] (hpo X mem sw o e) P) (k2 : ((mem r1 4) ≤ a5) → (a4 = 0) → P (.inl (some (.int 0)), (hpo X mem sw o e))) (k3 : (¬ (mem r1 4) ≤ a5) → (¬ a4 = 0) → QW (d + 1) mPg_lessFits 110 (lPg_lessFits_110 a3 a4 a5 r1 r2) [] (hpo X mem sw o e) P) (k4 : (¬ (mem r1 4) ≤ a5) → (a4 = 0) → QW d mPg_isSameLess 0 (qen 5 [.ref 190, .int a5, .int a3, .ref r1, .ref r2]) [] (hpo X mem sw o e) (qcl d mPg_lessFits 104 107 (lPg_lessFits_107 a3 a4 a5 r1 r2) [] P)) : QW (d + 1) mPg_lessFits 84 (lPg_lessFits_84 a3 a4 a5 r1 r2) [] (hpo X mem sw o e) P := by
  show QW (d + 1) mPg_lessFits 84 [.val (.ref 190), .val (.ref r1), .val (.ref r2), .val (.int a3), .val (.int a4), .val (.int a5)] [] (hpo X mem sw o e) P
  refine QW.iload dPg_lessFits_84 rfl ?_
  refine QW.aload_n dPg_lessFits_86 rfl rfl ?_
  refine MW.geti hX dPg_lessFits_87 fPg_72 (kNf_0 hr1) rfl ?_
  refine QW.icmp_ge (tgt := 123) dPg_lessFits_90 (by decide) (fun z0 => ?_) (fun z0 => ?_)
  · refine QW.iload dPg_lessFits_123 rfl ?_
    refine QW.if_ne (tgt := 130) dPg_lessFits_125 (by decide) (fun z1 => ?_) (fun z1 => ?_)
    · refine MW.iinc (c := 1) (ls' := [.val (.ref 190), .val (.ref r1), .val (.ref r2), .val (.int (a3 + 1)), .val (.int a4), .val (.int a5)]) dPg_lessFits_130 (by decide) rfl rfl ?_
      refine QW.goto (tgt := 70) dPg_lessFits_133 (by decide) ?_
      exact (k1 z0 z1)
    · refine QW.iconst (v := 0) dPg_lessFits_128 (by decide) ?_
      exact QW.iret dPg_lessFits_129 rfl rfl (k2 z0 z1)
  · refine QW.iload dPg_lessFits_93 rfl ?_
    refine QW.if_ne (tgt := 110) dPg_lessFits_95 (by decide) (fun z1 => ?_) (fun z1 => ?_)
    · exact (k3 z0 z1)
    · refine QW.aload_n dPg_lessFits_98 rfl rfl ?_
      refine QW.iload dPg_lessFits_99 rfl ?_
      refine QW.iload_n dPg_lessFits_101 rfl rfl ?_
      refine QW.aload_n dPg_lessFits_102 rfl rfl ?_
      refine QW.aload_n dPg_lessFits_103 rfl rfl ?_
      exact MW.calV (as := [.int a5, .int a3, .ref r1, .ref r2]) (rest := []) hX dPg_lessFits_104 ePg_isSameLess lPg_75 iPg_isSameLess vPg_isSameLess rfl rfl rfl rfl rfl rfl (Nat.le_of_ble_eq_true rfl) rfl (k4 z0 z1)
theorem bPg_lessFits_107 {r1 : Nat} {r2 : Nat} {a3 : Int32} {a4 : Int32} {a5 : Int32} {s0 : Int32} (hX : X.length = 13) (hr1 : kNf r1) (hr2 : kNf r2) (k1 : (s0 = 0) → QW d mPg_lessFits 115 (lPg_lessFits_115 a3 a4 a5 r1 r2) [.int 0] (hpo X mem sw o e) P) (k2 : (¬ s0 = 0) → QW d mPg_lessFits 110 (lPg_lessFits_110 a3 a4 a5 r1 r2) [] (hpo X mem sw o e) P) : QW d mPg_lessFits 107 (lPg_lessFits_107 a3 a4 a5 r1 r2) [.int s0] (hpo X mem sw o e) P := by
  show QW d mPg_lessFits 107 [.val (.ref 190), .val (.ref r1), .val (.ref r2), .val (.int a3), .val (.int a4), .val (.int a5)] [.int s0] (hpo X mem sw o e) P
  refine QW.if_eq (tgt := 114) dPg_lessFits_107 (by decide) (fun z0 => ?_) (fun z0 => ?_)
  · refine QW.iconst (v := 0) dPg_lessFits_114 (by decide) ?_
    exact (k1 z0)
  · exact (k2 z0)
theorem bPg_lessFits_110 {r1 : Nat} {r2 : Nat} {a3 : Int32} {a4 : Int32} {a5 : Int32} (hX : X.length = 13) (hr1 : kNf r1) (hr2 : kNf r2) (k1 : QW d mPg_lessFits 115 (lPg_lessFits_115 a3 a4 a5 r1 r2) [.int 1] (hpo X mem sw o e) P) : QW d mPg_lessFits 110 (lPg_lessFits_110 a3 a4 a5 r1 r2) [] (hpo X mem sw o e) P := by
  show QW d mPg_lessFits 110 [.val (.ref 190), .val (.ref r1), .val (.ref r2), .val (.int a3), .val (.int a4), .val (.int a5)] [] (hpo X mem sw o e) P
  refine QW.iconst (v := 1) dPg_lessFits_110 (by decide) ?_
  refine QW.goto (tgt := 115) dPg_lessFits_111 (by decide) ?_
  exact k1
theorem bPg_lessFits_115 {r1 : Nat} {r2 : Nat} {a3 : Int32} {a4 : Int32} {a5 : Int32} {s0 : Int32} (hX : X.length = 13) (hr1 : kNf r1) (hr2 : kNf r2) (k1 : QW d mPg_lessFits 84 (lPg_lessFits_84 a3 s0 (a5 + 1) r1 r2) [] (hpo X mem sw o e) P) : QW d mPg_lessFits 115 (lPg_lessFits_115 a3 a4 a5 r1 r2) [.int s0] (hpo X mem sw o e) P := by
  show QW d mPg_lessFits 115 [.val (.ref 190), .val (.ref r1), .val (.ref r2), .val (.int a3), .val (.int a4), .val (.int a5)] [.int s0] (hpo X mem sw o e) P
  refine QW.istore (ls' := [.val (.ref 190), .val (.ref r1), .val (.ref r2), .val (.int a3), .val (.int s0), .val (.int a5)]) dPg_lessFits_115 rfl ?_
  refine MW.iinc (c := 1) (ls' := [.val (.ref 190), .val (.ref r1), .val (.ref r2), .val (.int a3), .val (.int s0), .val (.int (a5 + 1))]) dPg_lessFits_117 (by decide) rfl rfl ?_
  refine QW.goto (tgt := 84) dPg_lessFits_120 (by decide) ?_
  exact k1
theorem dPg_isSameLess_0 : decode mPg_isSameLess.2.1 0 = .ok (.aload_n 0, 1) := by decide +kernel
theorem dPg_isSameLess_1 : decode mPg_isSameLess.2.1 1 = .ok (.aload_n 3, 1) := by decide +kernel
theorem dPg_isSameLess_2 : decode mPg_isSameLess.2.1 2 = .ok (.getfield 78, 3) := by decide +kernel
theorem dPg_isSameLess_5 : decode mPg_isSameLess.2.1 5 = .ok (.iload_n 1, 1) := by decide +kernel
theorem dPg_isSameLess_6 : decode mPg_isSameLess.2.1 6 = .ok (.iaload, 1) := by decide +kernel
theorem dPg_isSameLess_7 : decode mPg_isSameLess.2.1 7 = .ok (.aload 4, 2) := by decide +kernel
theorem dPg_isSameLess_9 : decode mPg_isSameLess.2.1 9 = .ok (.getfield 78, 3) := by decide +kernel
theorem dPg_isSameLess_12 : decode mPg_isSameLess.2.1 12 = .ok (.iload_n 2, 1) := by decide +kernel
theorem dPg_isSameLess_13 : decode mPg_isSameLess.2.1 13 = .ok (.iaload, 1) := by decide +kernel
theorem dPg_isSameLess_14 : decode mPg_isSameLess.2.1 14 = .ok (.aload_n 3, 1) := by decide +kernel
theorem dPg_isSameLess_15 : decode mPg_isSameLess.2.1 15 = .ok (.aload 4, 2) := by decide +kernel
theorem dPg_isSameLess_17 : decode mPg_isSameLess.2.1 17 = .ok (.invokevirtual 69, 3) := by decide +kernel
theorem dPg_isSameLess_20 : decode mPg_isSameLess.2.1 20 = .ok (.ifCond .eq 30, 3) := by decide +kernel
theorem dPg_isSameLess_23 : decode mPg_isSameLess.2.1 23 = .ok (.aload_n 0, 1) := by decide +kernel
theorem dPg_isSameLess_24 : decode mPg_isSameLess.2.1 24 = .ok (.aload_n 3, 1) := by decide +kernel
theorem dPg_isSameLess_25 : decode mPg_isSameLess.2.1 25 = .ok (.getfield 81, 3) := by decide +kernel
theorem dPg_isSameLess_28 : decode mPg_isSameLess.2.1 28 = .ok (.iload_n 1, 1) := by decide +kernel
theorem dPg_isSameLess_29 : decode mPg_isSameLess.2.1 29 = .ok (.iaload, 1) := by decide +kernel
theorem dPg_isSameLess_30 : decode mPg_isSameLess.2.1 30 = .ok (.aload 4, 2) := by decide +kernel
theorem dPg_isSameLess_32 : decode mPg_isSameLess.2.1 32 = .ok (.getfield 81, 3) := by decide +kernel
theorem dPg_isSameLess_35 : decode mPg_isSameLess.2.1 35 = .ok (.iload_n 2, 1) := by decide +kernel
theorem dPg_isSameLess_36 : decode mPg_isSameLess.2.1 36 = .ok (.iaload, 1) := by decide +kernel
theorem dPg_isSameLess_37 : decode mPg_isSameLess.2.1 37 = .ok (.aload_n 3, 1) := by decide +kernel
theorem dPg_isSameLess_38 : decode mPg_isSameLess.2.1 38 = .ok (.aload 4, 2) := by decide +kernel
theorem dPg_isSameLess_40 : decode mPg_isSameLess.2.1 40 = .ok (.invokevirtual 69, 3) := by decide +kernel
theorem dPg_isSameLess_43 : decode mPg_isSameLess.2.1 43 = .ok (.ifCond .eq 7, 3) := by decide +kernel
theorem dPg_isSameLess_46 : decode mPg_isSameLess.2.1 46 = .ok (.iconst 1, 1) := by decide +kernel
theorem dPg_isSameLess_47 : decode mPg_isSameLess.2.1 47 = .ok (.goto 4, 3) := by decide +kernel
theorem dPg_isSameLess_50 : decode mPg_isSameLess.2.1 50 = .ok (.iconst 0, 1) := by decide +kernel
theorem dPg_isSameLess_51 : decode mPg_isSameLess.2.1 51 = .ok (.ireturn, 1) := by decide +kernel
def lPg_isSameLess_20 (a1 : Int32) (a2 : Int32) (r3 : Nat) (r4 : Nat) : List Slot := [.val (.ref 190), .val (.int a1), .val (.int a2), .val (.ref r3), .val (.ref r4)]
def lPg_isSameLess_43 (a1 : Int32) (a2 : Int32) (r3 : Nat) (r4 : Nat) : List Slot := [.val (.ref 190), .val (.int a1), .val (.int a2), .val (.ref r3), .val (.ref r4)]
theorem bPg_isSameLess_0 {r3 : Nat} {r4 : Nat} {a1 : Int32} {a2 : Int32} (hX : X.length = 13) (hr3 : kNf r3) (hr4 : kNf r4) (h1 : inx a1 6) (h2 : inx a2 6) (k3 : QW d mPg_arePaired 0 (qen 7 [.ref 190, .int (mem (r3 + 2) (Int32.toNatClampNeg a1)), .int (mem (r4 + 2) (Int32.toNatClampNeg a2)), .ref r3, .ref r4]) [] (hpo X mem sw o e) (qcl d mPg_isSameLess 17 20 (lPg_isSameLess_20 a1 a2 r3 r4) [] P)) : QW (d + 1) mPg_isSameLess 0 (qen 5 [.ref 190, .int a1, .int a2, .ref r3, .ref r4]) [] (hpo X mem sw o e) P := by
  show QW (d + 1) mPg_isSameLess 0 [.val (.ref 190), .val (.int a1), .val (.int a2), .val (.ref r3), .val (.ref r4)] [] (hpo X mem sw o e) P
  refine QW.aload_n dPg_isSameLess_0 rfl rfl ?_
  refine QW.aload_n dPg_isSameLess_1 rfl rfl ?_
  refine MW.getr (r' := (r3 + 2)) hX dPg_isSameLess_2 fPg_78 (kNf_0 hr3) rfl (kNf_s2 hr3 _) ?_
  refine QW.iload_n dPg_isSameLess_5 rfl rfl ?_
  refine MW.iald hX dPg_isSameLess_6 (kNf_2 hr3) h1.1 (rep_get h1.2) ?_
  refine QW.aload dPg_isSameLess_7 rfl ?_
  refine MW.getr (r' := (r4 + 2)) hX dPg_isSameLess_9 fPg_78 (kNf_0 hr4) rfl (kNf_s2 hr4 _) ?_
  refine QW.iload_n dPg_isSameLess_12 rfl rfl ?_
  refine MW.iald hX dPg_isSameLess_13 (kNf_2 hr4) h2.1 (rep_get h2.2) ?_
  refine QW.aload_n dPg_isSameLess_14 rfl rfl ?_
  refine QW.aload dPg_isSameLess_15 rfl ?_
  exact MW.calV (as := [.int (mem (r3 + 2) (Int32.toNatClampNeg a1)), .int (mem (r4 + 2) (Int32.toNatClampNeg a2)), .ref r3, .ref r4]) (rest := []) hX dPg_isSameLess_17 ePg_arePaired lPg_69 iPg_arePaired vPg_arePaired rfl rfl rfl rfl rfl rfl (Nat.le_of_ble_eq_true rfl) rfl k3
theorem bPg_isSameLess_20 {r3 : Nat} {r4 : Nat} {a1 : Int32} {a2 : Int32} {s0 : Int32} (hX : X.length = 13) (hr3 : kNf r3) (hr4 : kNf r4) (k1 : (s0 = 0) → P (.inl (some (.int 0)), (hpo X mem sw o e))) (h2 : (¬ s0 = 0) → inx a1 6) (h3 : (¬ s0 = 0) → inx a2 6) (k4 : (¬ s0 = 0) → QW d mPg_arePaired 0 (qen 7 [.ref 190, .int (mem (r3 + 3) (Int32.toNatClampNeg a1)), .int (mem (r4 + 3) (Int32.toNatClampNeg a2)), .ref r3, .ref r4]) [] (hpo X mem sw o e) (qcl d mPg_isSameLess 40 43 (lPg_isSameLess_43 a1 a2 r3 r4) [] P)) : QW (d + 1) mPg_isSameLess 20 (lPg_isSameLess_20 a1 a2 r3 r4) [.int s0] (hpo X mem sw o e) P := by
  show QW (d + 1) mPg_isSameLess 20 [.val (.ref 190), .val (.int a1), .val (.int a2), .val (.ref r3), .val (.ref r4)] [.int s0] (hpo X mem sw o e) P
  refine QW.if_eq (tgt := 50) dPg_isSameLess_20 (by decide) (fun z0 => ?_) (fun z0 => ?_)
  · refine QW.iconst (v := 0) dPg_isSameLess_50 (by decide) ?_
    exact QW.iret dPg_isSameLess_51 rfl rfl (k1 z0)
  · refine QW.aload_n dPg_isSameLess_23 rfl rfl ?_
    refine QW.aload_n dPg_isSameLess_24 rfl rfl ?_
    refine MW.getr (r' := (r3 + 3)) hX dPg_isSameLess_25 fPg_81 (kNf_0 hr3) rfl (kNf_s3 hr3 _) ?_
    refine QW.iload_n dPg_isSameLess_28 rfl rfl ?_
    refine MW.iald hX dPg_isSameLess_29 (kNf_3 hr3) (h2 z0).1 (rep_get (h2 z0).2) ?_
    refine QW.aload dPg_isSameLess_30 rfl ?_
    refine MW.getr (r' := (r4 + 3)) hX dPg_isSameLess_32 fPg_81 (kNf_0 hr4) rfl (kNf_s3 hr4 _) ?_
    refine QW.iload_n dPg_isSameLess_35 rfl rfl ?_
    refine MW.iald hX dPg_isSameLess_36 (kNf_3 hr4) (h3 z0).1 (rep_get (h3 z0).2) ?_
    refine QW.aload_n dPg_isSameLess_37 rfl rfl ?_
    refine QW.aload dPg_isSameLess_38 rfl ?_
    exact MW.calV (as := [.int (mem (r3 + 3) (Int32.toNatClampNeg a1)), .int (mem (r4 + 3) (Int32.toNatClampNeg a2)), .ref r3, .ref r4]) (rest := []) hX dPg_isSameLess_40 ePg_arePaired lPg_69 iPg_arePaired vPg_arePaired rfl rfl rfl rfl rfl rfl (Nat.le_of_ble_eq_true rfl) rfl (k4 z0)
theorem bPg_isSameLess_43 {r3 : Nat} {r4 : Nat} {a1 : Int32} {a2 : Int32} {s0 : Int32} (hX : X.length = 13) (hr3 : kNf r3) (hr4 : kNf r4) (k1 : (s0 = 0) → P (.inl (some (.int 0)), (hpo X mem sw o e))) (k2 : (¬ s0 = 0) → P (.inl (some (.int 1)), (hpo X mem sw o e))) : QW d mPg_isSameLess 43 (lPg_isSameLess_43 a1 a2 r3 r4) [.int s0] (hpo X mem sw o e) P := by
  show QW d mPg_isSameLess 43 [.val (.ref 190), .val (.int a1), .val (.int a2), .val (.ref r3), .val (.ref r4)] [.int s0] (hpo X mem sw o e) P
  refine QW.if_eq (tgt := 50) dPg_isSameLess_43 (by decide) (fun z0 => ?_) (fun z0 => ?_)
  · refine QW.iconst (v := 0) dPg_isSameLess_50 (by decide) ?_
    exact QW.iret dPg_isSameLess_51 rfl rfl (k1 z0)
  · refine QW.iconst (v := 1) dPg_isSameLess_46 (by decide) ?_
    refine QW.goto (tgt := 51) dPg_isSameLess_47 (by decide) ?_
    exact QW.iret dPg_isSameLess_51 rfl rfl (k2 z0)
theorem dPg_arePaired_0 : decode mPg_arePaired.2.1 0 = .ok (.aload_n 3, 1) := by decide +kernel
theorem dPg_arePaired_1 : decode mPg_arePaired.2.1 1 = .ok (.getfield 63, 3) := by decide +kernel
theorem dPg_arePaired_4 : decode mPg_arePaired.2.1 4 = .ok (.iload_n 1, 1) := by decide +kernel
theorem dPg_arePaired_5 : decode mPg_arePaired.2.1 5 = .ok (.iaload, 1) := by decide +kernel
theorem dPg_arePaired_6 : decode mPg_arePaired.2.1 6 = .ok (.sipush (-1000), 3) := by decide +kernel
theorem dPg_arePaired_9 : decode mPg_arePaired.2.1 9 = .ok (.if_icmp .ne 16, 3) := by decide +kernel
theorem dPg_arePaired_12 : decode mPg_arePaired.2.1 12 = .ok (.aload 4, 2) := by decide +kernel
theorem dPg_arePaired_14 : decode mPg_arePaired.2.1 14 = .ok (.getfield 63, 3) := by decide +kernel
theorem dPg_arePaired_17 : decode mPg_arePaired.2.1 17 = .ok (.iload_n 2, 1) := by decide +kernel
theorem dPg_arePaired_18 : decode mPg_arePaired.2.1 18 = .ok (.iaload, 1) := by decide +kernel
theorem dPg_arePaired_19 : decode mPg_arePaired.2.1 19 = .ok (.sipush (-1000), 3) := by decide +kernel
theorem dPg_arePaired_22 : decode mPg_arePaired.2.1 22 = .ok (.if_icmp .eq 25, 3) := by decide +kernel
theorem dPg_arePaired_25 : decode mPg_arePaired.2.1 25 = .ok (.aload_n 3, 1) := by decide +kernel
theorem dPg_arePaired_26 : decode mPg_arePaired.2.1 26 = .ok (.getfield 63, 3) := by decide +kernel
theorem dPg_arePaired_29 : decode mPg_arePaired.2.1 29 = .ok (.iload_n 1, 1) := by decide +kernel
theorem dPg_arePaired_30 : decode mPg_arePaired.2.1 30 = .ok (.iaload, 1) := by decide +kernel
theorem dPg_arePaired_31 : decode mPg_arePaired.2.1 31 = .ok (.aload 4, 2) := by decide +kernel
theorem dPg_arePaired_33 : decode mPg_arePaired.2.1 33 = .ok (.getfield 63, 3) := by decide +kernel
theorem dPg_arePaired_36 : decode mPg_arePaired.2.1 36 = .ok (.iload_n 2, 1) := by decide +kernel
theorem dPg_arePaired_37 : decode mPg_arePaired.2.1 37 = .ok (.iaload, 1) := by decide +kernel
theorem dPg_arePaired_38 : decode mPg_arePaired.2.1 38 = .ok (.if_icmp .ne 7, 3) := by decide +kernel
theorem dPg_arePaired_41 : decode mPg_arePaired.2.1 41 = .ok (.iconst 1, 1) := by decide +kernel
theorem dPg_arePaired_42 : decode mPg_arePaired.2.1 42 = .ok (.goto 4, 3) := by decide +kernel
theorem dPg_arePaired_45 : decode mPg_arePaired.2.1 45 = .ok (.iconst 0, 1) := by decide +kernel
theorem dPg_arePaired_46 : decode mPg_arePaired.2.1 46 = .ok (.ireturn, 1) := by decide +kernel
theorem dPg_arePaired_47 : decode mPg_arePaired.2.1 47 = .ok (.iconst 0, 1) := by decide +kernel
theorem dPg_arePaired_48 : decode mPg_arePaired.2.1 48 = .ok (.istore 5, 2) := by decide +kernel
theorem dPg_arePaired_50 : decode mPg_arePaired.2.1 50 = .ok (.iload 5, 2) := by decide +kernel
theorem dPg_arePaired_52 : decode mPg_arePaired.2.1 52 = .ok (.aload_n 3, 1) := by decide +kernel
theorem dPg_arePaired_53 : decode mPg_arePaired.2.1 53 = .ok (.getfield 32, 3) := by decide +kernel
theorem dPg_arePaired_56 : decode mPg_arePaired.2.1 56 = .ok (.if_icmp .ge 66, 3) := by decide +kernel
theorem dPg_arePaired_59 : decode mPg_arePaired.2.1 59 = .ok (.iconst 0, 1) := by decide +kernel
theorem dPg_arePaired_60 : decode mPg_arePaired.2.1 60 = .ok (.istore 6, 2) := by decide +kernel
theorem dPg_arePaired_62 : decode mPg_arePaired.2.1 62 = .ok (.iload 6, 2) := by decide +kernel
theorem dPg_arePaired_64 : decode mPg_arePaired.2.1 64 = .ok (.aload_n 3, 1) := by decide +kernel
theorem dPg_arePaired_65 : decode mPg_arePaired.2.1 65 = .ok (.getfield 52, 3) := by decide +kernel
theorem dPg_arePaired_68 : decode mPg_arePaired.2.1 68 = .ok (.iload 5, 2) := by decide +kernel
theorem dPg_arePaired_70 : decode mPg_arePaired.2.1 70 = .ok (.iaload, 1) := by decide +kernel
theorem dPg_arePaired_71 : decode mPg_arePaired.2.1 71 = .ok (.if_icmp .ge 45, 3) := by decide +kernel
theorem dPg_arePaired_74 : decode mPg_arePaired.2.1 74 = .ok (.aload_n 3, 1) := by decide +kernel
theorem dPg_arePaired_75 : decode mPg_arePaired.2.1 75 = .ok (.iload 5, 2) := by decide +kernel
theorem dPg_arePaired_77 : decode mPg_arePaired.2.1 77 = .ok (.iload 6, 2) := by decide +kernel
theorem dPg_arePaired_79 : decode mPg_arePaired.2.1 79 = .ok (.invokevirtual 59, 3) := by decide +kernel
theorem dPg_arePaired_82 : decode mPg_arePaired.2.1 82 = .ok (.iload_n 1, 1) := by decide +kernel
theorem dPg_arePaired_83 : decode mPg_arePaired.2.1 83 = .ok (.if_icmp .ne 27, 3) := by decide +kernel
theorem dPg_arePaired_86 : decode mPg_arePaired.2.1 86 = .ok (.aload 4, 2) := by decide +kernel
theorem dPg_arePaired_88 : decode mPg_arePaired.2.1 88 = .ok (.aload_n 0, 1) := by decide +kernel
theorem dPg_arePaired_89 : decode mPg_arePaired.2.1 89 = .ok (.getfield 9, 3) := by decide +kernel
theorem dPg_arePaired_92 : decode mPg_arePaired.2.1 92 = .ok (.iload 5, 2) := by decide +kernel
theorem dPg_arePaired_94 : decode mPg_arePaired.2.1 94 = .ok (.iaload, 1) := by decide +kernel
theorem dPg_arePaired_95 : decode mPg_arePaired.2.1 95 = .ok (.iload 6, 2) := by decide +kernel
theorem dPg_arePaired_97 : decode mPg_arePaired.2.1 97 = .ok (.invokevirtual 59, 3) := by decide +kernel
theorem dPg_arePaired_100 : decode mPg_arePaired.2.1 100 = .ok (.iload_n 2, 1) := by decide +kernel
theorem dPg_arePaired_101 : decode mPg_arePaired.2.1 101 = .ok (.if_icmp .ne 7, 3) := by decide +kernel
theorem dPg_arePaired_104 : decode mPg_arePaired.2.1 104 = .ok (.iconst 1, 1) := by decide +kernel
theorem dPg_arePaired_105 : decode mPg_arePaired.2.1 105 = .ok (.goto 4, 3) := by decide +kernel
theorem dPg_arePaired_108 : decode mPg_arePaired.2.1 108 = .ok (.iconst 0, 1) := by decide +kernel
theorem dPg_arePaired_109 : decode mPg_arePaired.2.1 109 = .ok (.ireturn, 1) := by decide +kernel
theorem dPg_arePaired_110 : decode mPg_arePaired.2.1 110 = .ok (.iinc 6 1, 3) := by decide +kernel
theorem dPg_arePaired_113 : decode mPg_arePaired.2.1 113 = .ok (.goto (-51), 3) := by decide +kernel
theorem dPg_arePaired_116 : decode mPg_arePaired.2.1 116 = .ok (.iinc 5 1, 3) := by decide +kernel
theorem dPg_arePaired_119 : decode mPg_arePaired.2.1 119 = .ok (.goto (-69), 3) := by decide +kernel
theorem dPg_arePaired_122 : decode mPg_arePaired.2.1 122 = .ok (.iconst 0, 1) := by decide +kernel
theorem dPg_arePaired_123 : decode mPg_arePaired.2.1 123 = .ok (.ireturn, 1) := by decide +kernel
def lPg_arePaired_25 (a1 : Int32) (a2 : Int32) (r3 : Nat) (r4 : Nat) : List Slot := [.val (.ref 190), .val (.int a1), .val (.int a2), .val (.ref r3), .val (.ref r4), .unset, .unset]
def lPg_arePaired_50 (a1 : Int32) (a2 : Int32) (a5 : Int32) (w6 : Slot) (r3 : Nat) (r4 : Nat) : List Slot := [.val (.ref 190), .val (.int a1), .val (.int a2), .val (.ref r3), .val (.ref r4), .val (.int a5), w6]
def lPg_arePaired_62 (a1 : Int32) (a2 : Int32) (a5 : Int32) (a6 : Int32) (r3 : Nat) (r4 : Nat) : List Slot := [.val (.ref 190), .val (.int a1), .val (.int a2), .val (.ref r3), .val (.ref r4), .val (.int a5), .val (.int a6)]
def lPg_arePaired_82 (a1 : Int32) (a2 : Int32) (a5 : Int32) (a6 : Int32) (r3 : Nat) (r4 : Nat) : List Slot := [.val (.ref 190), .val (.int a1), .val (.int a2), .val (.ref r3), .val (.ref r4), .val (.int a5), .val (.int a6)]
def lPg_arePaired_100 (a1 : Int32) (a2 : Int32) (a5 : Int32) (a6 : Int32) (r3 : Nat) (r4 : Nat) : List Slot := [.val (.ref 190), .val (.int a1), .val (.int a2), .val (.ref r3), .val (.ref r4), .val (.int a5), .val (.int a6)]
theorem bPg_arePaired_0 {r3 : Nat} {r4 : Nat} {a1 : Int32} {a2 : Int32} (hX : X.length = 13) (hr3 : kNf r3) (hr4 : kNf r4) (h1 : inx a1 27) (k2 : (¬ (mem (r3 + 9) (Int32.toNatClampNeg a1)) = (-1000)) → QW d mPg_arePaired 25 (lPg_arePaired_25 a1 a2 r3 r4) [] (hpo X mem sw o e) P) (h3 : ((mem (r3 + 9) (Int32.toNatClampNeg a1)) = (-1000)) → inx a2 27) (k4 : ((mem (r3 + 9) (Int32.toNatClampNeg a1)) = (-1000)) → ((mem (r4 + 9) (Int32.toNatClampNeg a2)) = (-1000)) → QW d mPg_arePaired 50 (lPg_arePaired_50 a1 a2 0 .unset r3 r4) [] (hpo X mem sw o e) P) (k5 : ((mem (r3 + 9) (Int32.toNatClampNeg a1)) = (-1000)) → (¬ (mem (r4 + 9) (Int32.toNatClampNeg a2)) = (-1000)) → QW d mPg_arePaired 25 (lPg_arePaired_25 a1 a2 r3 r4) [] (hpo X mem sw o e) P) : QW d mPg_arePaired 0 (qen 7 [.ref 190, .int a1, .int a2, .ref r3, .ref r4]) [] (hpo X mem sw o e) P := by
  show QW d mPg_arePaired 0 [.val (.ref 190), .val (.int a1), .val (.int a2), .val (.ref r3), .val (.ref r4), .unset, .unset] [] (hpo X mem sw o e) P
  refine QW.aload_n dPg_arePaired_0 rfl rfl ?_
  refine MW.getr (r' := (r3 + 9)) hX dPg_arePaired_1 fPg_63 (kNf_0 hr3) rfl (kNf_s9 hr3 _) ?_
  refine QW.iload_n dPg_arePaired_4 rfl rfl ?_
  refine MW.iald hX dPg_arePaired_5 (kNf_9 hr3) h1.1 (rep_get h1.2) ?_
  refine QW.sipush (v := (-1000)) dPg_arePaired_6 (by decide) ?_
  refine QW.icmp_ne (tgt := 25) dPg_arePaired_9 (by decide) (fun z0 => ?_) (fun z0 => ?_)
  · exact (k2 z0)
  · refine QW.aload dPg_arePaired_12 rfl ?_
    refine MW.getr (r' := (r4 + 9)) hX dPg_arePaired_14 fPg_63 (kNf_0 hr4) rfl (kNf_s9 hr4 _) ?_
    refine QW.iload_n dPg_arePaired_17 rfl rfl ?_
    refine MW.iald hX dPg_arePaired_18 (kNf_9 hr4) (h3 z0).1 (rep_get (h3 z0).2) ?_
    refine QW.sipush (v := (-1000)) dPg_arePaired_19 (by decide) ?_
    refine QW.icmp_eq (tgt := 47) dPg_arePaired_22 (by decide) (fun z1 => ?_) (fun z1 => ?_)
    · refine QW.iconst (v := 0) dPg_arePaired_47 (by decide) ?_
      refine QW.istore (ls' := [.val (.ref 190), .val (.int a1), .val (.int a2), .val (.ref r3), .val (.ref r4), .val (.int 0), .unset]) dPg_arePaired_48 rfl ?_
      exact (k4 z0 z1)
    · exact (k5 z0 z1)
theorem bPg_arePaired_25 {r3 : Nat} {r4 : Nat} {a1 : Int32} {a2 : Int32} (hX : X.length = 13) (hr3 : kNf r3) (hr4 : kNf r4) (h1 : inx a1 27) (h2 : inx a2 27) (k3 : (¬ (mem (r3 + 9) (Int32.toNatClampNeg a1)) = (mem (r4 + 9) (Int32.toNatClampNeg a2))) → P (.inl (some (.int 0)), (hpo X mem sw o e))) (k4 : ((mem (r3 + 9) (Int32.toNatClampNeg a1)) = (mem (r4 + 9) (Int32.toNatClampNeg a2))) → P (.inl (some (.int 1)), (hpo X mem sw o e))) : QW d mPg_arePaired 25 (lPg_arePaired_25 a1 a2 r3 r4) [] (hpo X mem sw o e) P := by
  show QW d mPg_arePaired 25 [.val (.ref 190), .val (.int a1), .val (.int a2), .val (.ref r3), .val (.ref r4), .unset, .unset] [] (hpo X mem sw o e) P
  refine QW.aload_n dPg_arePaired_25 rfl rfl ?_
  refine MW.getr (r' := (r3 + 9)) hX dPg_arePaired_26 fPg_63 (kNf_0 hr3) rfl (kNf_s9 hr3 _) ?_
  refine QW.iload_n dPg_arePaired_29 rfl rfl ?_
  refine MW.iald hX dPg_arePaired_30 (kNf_9 hr3) h1.1 (rep_get h1.2) ?_
  refine QW.aload dPg_arePaired_31 rfl ?_
  refine MW.getr (r' := (r4 + 9)) hX dPg_arePaired_33 fPg_63 (kNf_0 hr4) rfl (kNf_s9 hr4 _) ?_
  refine QW.iload_n dPg_arePaired_36 rfl rfl ?_
  refine MW.iald hX dPg_arePaired_37 (kNf_9 hr4) h2.1 (rep_get h2.2) ?_
  refine QW.icmp_ne (tgt := 45) dPg_arePaired_38 (by decide) (fun z0 => ?_) (fun z0 => ?_)
  · refine QW.iconst (v := 0) dPg_arePaired_45 (by decide) ?_
    exact QW.iret dPg_arePaired_46 rfl rfl (k3 z0)
  · refine QW.iconst (v := 1) dPg_arePaired_41 (by decide) ?_
    refine QW.goto (tgt := 46) dPg_arePaired_42 (by decide) ?_
    exact QW.iret dPg_arePaired_46 rfl rfl (k4 z0)
theorem bPg_arePaired_50 {r3 : Nat} {r4 : Nat} {a1 : Int32} {a2 : Int32} {a5 : Int32} {w6 : Slot} (hX : X.length = 13) (hr3 : kNf r3) (hr4 : kNf r4) (hw6 : qfr w6) (k1 : ((mem r3 7) ≤ a5) → P (.inl (some (.int 0)), (hpo X mem sw o e))) (k2 : (¬ (mem r3 7) ≤ a5) → QW d mPg_arePaired 62 (lPg_arePaired_62 a1 a2 a5 0 r3 r4) [] (hpo X mem sw o e) P) : QW d mPg_arePaired 50 (lPg_arePaired_50 a1 a2 a5 w6 r3 r4) [] (hpo X mem sw o e) P := by
  show QW d mPg_arePaired 50 [.val (.ref 190), .val (.int a1), .val (.int a2), .val (.ref r3), .val (.ref r4), .val (.int a5), w6] [] (hpo X mem sw o e) P
  refine QW.iload dPg_arePaired_50 rfl ?_
  refine QW.aload_n dPg_arePaired_52 rfl rfl ?_
  refine MW.geti hX dPg_arePaired_53 fPg_32 (kNf_0 hr3) rfl ?_
  refine QW.icmp_ge (tgt := 122) dPg_arePaired_56 (by decide) (fun z0 => ?_) (fun z0 => ?_)
  · refine QW.iconst (v := 0) dPg_arePaired_122 (by decide) ?_
    exact QW.iret dPg_arePaired_123 rfl rfl (k1 z0)
  · refine QW.iconst (v := 0) dPg_arePaired_59 (by decide) ?_
    refine QW.istore (ls' := [.val (.ref 190), .val (.int a1), .val (.int a2), .val (.ref r3), .val (.ref r4), .val (.int a5), .val (.int 0)]) dPg_arePaired_60 (by rcases hw6 with z | ⟨_, z⟩ | ⟨_, z⟩ <;> subst z <;> rfl) ?_
    exact (k2 z0)
theorem bPg_arePaired_62 {r3 : Nat} {r4 : Nat} {a1 : Int32} {a2 : Int32} {a5 : Int32} {a6 : Int32} (hX : X.length = 13) (hr3 : kNf r3) (hr4 : kNf r4) (h1 : inx a5 4) (k2 : ((mem (r3 + 6) (Int32.toNatClampNeg a5)) ≤ a6) → QW (d + 1) mPg_arePaired 50 (lPg_arePaired_50 a1 a2 (a5 + 1) (.val (.int a6)) r3 r4) [] (hpo X mem sw o e) P) (k3 : (¬ (mem (r3 + 6) (Int32.toNatClampNeg a5)) ≤ a6) → QW d mNf_classOf 0 (qen 3 [.ref r3, .int a5, .int a6]) [] (hpo X mem sw o e) (qcl d mPg_arePaired 79 82 (lPg_arePaired_82 a1 a2 a5 a6 r3 r4) [] P)) : QW (d + 1) mPg_arePaired 62 (lPg_arePaired_62 a1 a2 a5 a6 r3 r4) [] (hpo X mem sw o e) P := by
  show QW (d + 1) mPg_arePaired 62 [.val (.ref 190), .val (.int a1), .val (.int a2), .val (.ref r3), .val (.ref r4), .val (.int a5), .val (.int a6)] [] (hpo X mem sw o e) P
  refine QW.iload dPg_arePaired_62 rfl ?_
  refine QW.aload_n dPg_arePaired_64 rfl rfl ?_
  refine MW.getr (r' := (r3 + 6)) hX dPg_arePaired_65 fPg_52 (kNf_0 hr3) rfl (kNf_s6 hr3 _) ?_
  refine QW.iload dPg_arePaired_68 rfl ?_
  refine MW.iald hX dPg_arePaired_70 (kNf_6 hr3) h1.1 (rep_get h1.2) ?_
  refine QW.icmp_ge (tgt := 116) dPg_arePaired_71 (by decide) (fun z0 => ?_) (fun z0 => ?_)
  · refine MW.iinc (c := 1) (ls' := [.val (.ref 190), .val (.int a1), .val (.int a2), .val (.ref r3), .val (.ref r4), .val (.int (a5 + 1)), .val (.int a6)]) dPg_arePaired_116 (by decide) rfl rfl ?_
    refine QW.goto (tgt := 50) dPg_arePaired_119 (by decide) ?_
    exact (k2 z0)
  · refine QW.aload_n dPg_arePaired_74 rfl rfl ?_
    refine QW.iload dPg_arePaired_75 rfl ?_
    refine QW.iload dPg_arePaired_77 rfl ?_
    exact MW.calV (as := [.int a5, .int a6]) (rest := []) hX dPg_arePaired_79 eNf_classOf lPg_59 iNf_classOf vNf_classOf rfl rfl (kNf_0 hr3) rfl rfl rfl (Nat.le_of_ble_eq_true rfl) rfl (k3 z0)
theorem bPg_arePaired_82 {r3 : Nat} {r4 : Nat} {a1 : Int32} {a2 : Int32} {a5 : Int32} {a6 : Int32} {s0 : Int32} (hX : X.length = 13) (hr3 : kNf r3) (hr4 : kNf r4) (k1 : (¬ s0 = a1) → QW (d + 1) mPg_arePaired 62 (lPg_arePaired_62 a1 a2 a5 (a6 + 1) r3 r4) [] (hpo X mem sw o e) P) (h2 : (s0 = a1) → inx a5 4) (k3 : (s0 = a1) → QW d mNf_classOf 0 (qen 3 [.ref r4, .int (mem 191 (Int32.toNatClampNeg a5)), .int a6]) [] (hpo X mem sw o e) (qcl d mPg_arePaired 97 100 (lPg_arePaired_100 a1 a2 a5 a6 r3 r4) [] P)) : QW (d + 1) mPg_arePaired 82 (lPg_arePaired_82 a1 a2 a5 a6 r3 r4) [.int s0] (hpo X mem sw o e) P := by
  show QW (d + 1) mPg_arePaired 82 [.val (.ref 190), .val (.int a1), .val (.int a2), .val (.ref r3), .val (.ref r4), .val (.int a5), .val (.int a6)] [.int s0] (hpo X mem sw o e) P
  refine QW.iload_n dPg_arePaired_82 rfl rfl ?_
  refine QW.icmp_ne (tgt := 110) dPg_arePaired_83 (by decide) (fun z0 => ?_) (fun z0 => ?_)
  · refine MW.iinc (c := 1) (ls' := [.val (.ref 190), .val (.int a1), .val (.int a2), .val (.ref r3), .val (.ref r4), .val (.int a5), .val (.int (a6 + 1))]) dPg_arePaired_110 (by decide) rfl rfl ?_
    refine QW.goto (tgt := 62) dPg_arePaired_113 (by decide) ?_
    exact (k1 z0)
  · refine QW.aload dPg_arePaired_86 rfl ?_
    refine QW.aload_n dPg_arePaired_88 rfl rfl ?_
    refine MW.getr (r' := 191) hX dPg_arePaired_89 fPg_9 rfl rfl (by cases sw <;> rfl) ?_
    refine QW.iload dPg_arePaired_92 rfl ?_
    refine MW.iald hX dPg_arePaired_94 rfl (h2 z0).1 (rep_get (h2 z0).2) ?_
    refine QW.iload dPg_arePaired_95 rfl ?_
    exact MW.calV (as := [.int (mem 191 (Int32.toNatClampNeg a5)), .int a6]) (rest := []) hX dPg_arePaired_97 eNf_classOf lPg_59 iNf_classOf vNf_classOf rfl rfl (kNf_0 hr4) rfl rfl rfl (Nat.le_of_ble_eq_true rfl) rfl (k3 z0)
theorem bPg_arePaired_100 {r3 : Nat} {r4 : Nat} {a1 : Int32} {a2 : Int32} {a5 : Int32} {a6 : Int32} {s0 : Int32} (hX : X.length = 13) (hr3 : kNf r3) (hr4 : kNf r4) (k1 : (¬ s0 = a2) → P (.inl (some (.int 0)), (hpo X mem sw o e))) (k2 : (s0 = a2) → P (.inl (some (.int 1)), (hpo X mem sw o e))) : QW d mPg_arePaired 100 (lPg_arePaired_100 a1 a2 a5 a6 r3 r4) [.int s0] (hpo X mem sw o e) P := by
  show QW d mPg_arePaired 100 [.val (.ref 190), .val (.int a1), .val (.int a2), .val (.ref r3), .val (.ref r4), .val (.int a5), .val (.int a6)] [.int s0] (hpo X mem sw o e) P
  refine QW.iload_n dPg_arePaired_100 rfl rfl ?_
  refine QW.icmp_ne (tgt := 108) dPg_arePaired_101 (by decide) (fun z0 => ?_) (fun z0 => ?_)
  · refine QW.iconst (v := 0) dPg_arePaired_108 (by decide) ?_
    exact QW.iret dPg_arePaired_109 rfl rfl (k1 z0)
  · refine QW.iconst (v := 1) dPg_arePaired_104 (by decide) ?_
    refine QW.goto (tgt := 109) dPg_arePaired_105 (by decide) ?_
    exact QW.iret dPg_arePaired_109 rfl rfl (k2 z0)
theorem dPlan_fill_0 : decode mPlan_fill.2.1 0 = .ok (.aload_n 1, 1) := by decide +kernel
theorem dPlan_fill_1 : decode mPlan_fill.2.1 1 = .ok (.aload_n 2, 1) := by decide +kernel
theorem dPlan_fill_2 : decode mPlan_fill.2.1 2 = .ok (.getfield 25, 3) := by decide +kernel
theorem dPlan_fill_5 : decode mPlan_fill.2.1 5 = .ok (.invokevirtual 31, 3) := by decide +kernel
theorem dPlan_fill_8 : decode mPlan_fill.2.1 8 = .ok (.aload_n 0, 1) := by decide +kernel
theorem dPlan_fill_9 : decode mPlan_fill.2.1 9 = .ok (.aload_n 2, 1) := by decide +kernel
theorem dPlan_fill_10 : decode mPlan_fill.2.1 10 = .ok (.invokevirtual 37, 3) := by decide +kernel
theorem dPlan_fill_13 : decode mPlan_fill.2.1 13 = .ok (.aload_n 0, 1) := by decide +kernel
theorem dPlan_fill_14 : decode mPlan_fill.2.1 14 = .ok (.aload_n 2, 1) := by decide +kernel
theorem dPlan_fill_15 : decode mPlan_fill.2.1 15 = .ok (.invokevirtual 41, 3) := by decide +kernel
theorem dPlan_fill_18 : decode mPlan_fill.2.1 18 = .ok (.aload_n 0, 1) := by decide +kernel
theorem dPlan_fill_19 : decode mPlan_fill.2.1 19 = .ok (.iconst (-1), 1) := by decide +kernel
theorem dPlan_fill_20 : decode mPlan_fill.2.1 20 = .ok (.aload_n 2, 1) := by decide +kernel
theorem dPlan_fill_21 : decode mPlan_fill.2.1 21 = .ok (.aload_n 3, 1) := by decide +kernel
theorem dPlan_fill_22 : decode mPlan_fill.2.1 22 = .ok (.invokevirtual 44, 3) := by decide +kernel
theorem dPlan_fill_25 : decode mPlan_fill.2.1 25 = .ok (.ifCond .eq 17, 3) := by decide +kernel
theorem dPlan_fill_28 : decode mPlan_fill.2.1 28 = .ok (.aload_n 0, 1) := by decide +kernel
theorem dPlan_fill_29 : decode mPlan_fill.2.1 29 = .ok (.iconst 0, 1) := by decide +kernel
theorem dPlan_fill_30 : decode mPlan_fill.2.1 30 = .ok (.iconst 1, 1) := by decide +kernel
theorem dPlan_fill_31 : decode mPlan_fill.2.1 31 = .ok (.aload_n 1, 1) := by decide +kernel
theorem dPlan_fill_32 : decode mPlan_fill.2.1 32 = .ok (.aload_n 2, 1) := by decide +kernel
theorem dPlan_fill_33 : decode mPlan_fill.2.1 33 = .ok (.aload_n 3, 1) := by decide +kernel
theorem dPlan_fill_34 : decode mPlan_fill.2.1 34 = .ok (.invokevirtual 48, 3) := by decide +kernel
theorem dPlan_fill_37 : decode mPlan_fill.2.1 37 = .ok (.ifCond .ne 5, 3) := by decide +kernel
theorem dPlan_fill_40 : decode mPlan_fill.2.1 40 = .ok (.iconst 0, 1) := by decide +kernel
theorem dPlan_fill_41 : decode mPlan_fill.2.1 41 = .ok (.ireturn, 1) := by decide +kernel
theorem dPlan_fill_42 : decode mPlan_fill.2.1 42 = .ok (.aload_n 2, 1) := by decide +kernel
theorem dPlan_fill_43 : decode mPlan_fill.2.1 43 = .ok (.getfield 52, 3) := by decide +kernel
theorem dPlan_fill_46 : decode mPlan_fill.2.1 46 = .ok (.ifCond .eq 7, 3) := by decide +kernel
theorem dPlan_fill_49 : decode mPlan_fill.2.1 49 = .ok (.aload_n 1, 1) := by decide +kernel
theorem dPlan_fill_50 : decode mPlan_fill.2.1 50 = .ok (.invokevirtual 56, 3) := by decide +kernel
theorem dPlan_fill_53 : decode mPlan_fill.2.1 53 = .ok (.iconst 1, 1) := by decide +kernel
theorem dPlan_fill_54 : decode mPlan_fill.2.1 54 = .ok (.ireturn, 1) := by decide +kernel
def lPlan_fill_8 (r1 : Nat) (r2 : Nat) : List Slot := [.val (.ref 156), .val (.ref r1), .val (.ref r2), .val (.ref 14)]
def lPlan_fill_13 (r1 : Nat) (r2 : Nat) : List Slot := [.val (.ref 156), .val (.ref r1), .val (.ref r2), .val (.ref 14)]
def lPlan_fill_18 (r1 : Nat) (r2 : Nat) : List Slot := [.val (.ref 156), .val (.ref r1), .val (.ref r2), .val (.ref 14)]
def lPlan_fill_25 (r1 : Nat) (r2 : Nat) : List Slot := [.val (.ref 156), .val (.ref r1), .val (.ref r2), .val (.ref 14)]
def lPlan_fill_37 (r1 : Nat) (r2 : Nat) : List Slot := [.val (.ref 156), .val (.ref r1), .val (.ref r2), .val (.ref 14)]
def lPlan_fill_42 (r1 : Nat) (r2 : Nat) : List Slot := [.val (.ref 156), .val (.ref r1), .val (.ref r2), .val (.ref 14)]
def lPlan_fill_53 (r1 : Nat) (r2 : Nat) : List Slot := [.val (.ref 156), .val (.ref r1), .val (.ref r2), .val (.ref 14)]
theorem bPlan_fill_0 {r1 : Nat} {r2 : Nat} (hX : X.length = 13) (hr1 : kBag r1) (hr2 : kBl r2) (k1 : QW d mBag_clear 0 (qen 2 [.ref r1, .int (mem r2 1)]) [] (hpo X mem sw o e) (qcl d mPlan_fill 5 8 (lPlan_fill_8 r1 r2) [] P)) : QW (d + 1) mPlan_fill 0 (qen 4 [.ref 156, .ref r1, .ref r2, .ref 14]) [] (hpo X mem sw o e) P := by
  show QW (d + 1) mPlan_fill 0 [.val (.ref 156), .val (.ref r1), .val (.ref r2), .val (.ref 14)] [] (hpo X mem sw o e) P
  refine QW.aload_n dPlan_fill_0 rfl rfl ?_
  refine QW.aload_n dPlan_fill_1 rfl rfl ?_
  refine MW.geti hX dPlan_fill_2 fPlan_25 (kBl_0 hr2) rfl ?_
  exact MW.calV (as := [.int (mem r2 1)]) (rest := []) hX dPlan_fill_5 eBag_clear lPlan_31 iBag_clear vBag_clear rfl rfl (kBag_0 hr1) rfl rfl rfl (Nat.le_of_ble_eq_true rfl) rfl k1
theorem bPlan_fill_8 {r1 : Nat} {r2 : Nat} (hX : X.length = 13) (hr1 : kBag r1) (hr2 : kBl r2) (k1 : QW d mPlan_markUsed 0 (qen 3 [.ref 156, .ref r2]) [] (hpo X mem sw o e) (qcl d mPlan_fill 10 13 (lPlan_fill_13 r1 r2) [] P)) : QW (d + 1) mPlan_fill 8 (lPlan_fill_8 r1 r2) [] (hpo X mem sw o e) P := by
  show QW (d + 1) mPlan_fill 8 [.val (.ref 156), .val (.ref r1), .val (.ref r2), .val (.ref 14)] [] (hpo X mem sw o e) P
  refine QW.aload_n dPlan_fill_8 rfl rfl ?_
  refine QW.aload_n dPlan_fill_9 rfl rfl ?_
  exact MW.calV (as := [.ref r2]) (rest := []) hX dPlan_fill_10 ePlan_markUsed lPlan_37 iPlan_markUsed vPlan_markUsed rfl rfl rfl rfl rfl rfl (Nat.le_of_ble_eq_true rfl) rfl k1
theorem bPlan_fill_13 {r1 : Nat} {r2 : Nat} (hX : X.length = 13) (hr1 : kBag r1) (hr2 : kBl r2) (k1 : QW d mPlan_findLastSources 0 (qen 3 [.ref 156, .ref r2]) [] (hpo X mem sw o e) (qcl d mPlan_fill 15 18 (lPlan_fill_18 r1 r2) [] P)) : QW (d + 1) mPlan_fill 13 (lPlan_fill_13 r1 r2) [] (hpo X mem sw o e) P := by
  show QW (d + 1) mPlan_fill 13 [.val (.ref 156), .val (.ref r1), .val (.ref r2), .val (.ref 14)] [] (hpo X mem sw o e) P
  refine QW.aload_n dPlan_fill_13 rfl rfl ?_
  refine QW.aload_n dPlan_fill_14 rfl rfl ?_
  exact MW.calV (as := [.ref r2]) (rest := []) hX dPlan_fill_15 ePlan_findLastSources lPlan_41 iPlan_findLastSources vPlan_findLastSources rfl rfl rfl rfl rfl rfl (Nat.le_of_ble_eq_true rfl) rfl k1
theorem bPlan_fill_18 {r1 : Nat} {r2 : Nat} (hX : X.length = 13) (hr1 : kBag r1) (hr2 : kBl r2) (k1 : QW d mPlan_holdsAt 0 (qen 7 [.ref 156, .int (-1), .ref r2, .ref 14]) [] (hpo X mem sw o e) (qcl d mPlan_fill 22 25 (lPlan_fill_25 r1 r2) [] P)) : QW (d + 1) mPlan_fill 18 (lPlan_fill_18 r1 r2) [] (hpo X mem sw o e) P := by
  show QW (d + 1) mPlan_fill 18 [.val (.ref 156), .val (.ref r1), .val (.ref r2), .val (.ref 14)] [] (hpo X mem sw o e) P
  refine QW.aload_n dPlan_fill_18 rfl rfl ?_
  refine QW.iconst (v := (-1)) dPlan_fill_19 (by decide) ?_
  refine QW.aload_n dPlan_fill_20 rfl rfl ?_
  refine QW.aload_n dPlan_fill_21 rfl rfl ?_
  exact MW.calV (as := [.int (-1), .ref r2, .ref 14]) (rest := []) hX dPlan_fill_22 ePlan_holdsAt lPlan_44 iPlan_holdsAt vPlan_holdsAt rfl rfl rfl rfl rfl rfl (Nat.le_of_ble_eq_true rfl) rfl k1
theorem bPlan_fill_25 {r1 : Nat} {r2 : Nat} {s0 : Int32} (hX : X.length = 13) (hr1 : kBag r1) (hr2 : kBl r2) (k1 : (s0 = 0) → QW (d + 1) mPlan_fill 42 (lPlan_fill_42 r1 r2) [] (hpo X mem sw o e) P) (k2 : (¬ s0 = 0) → QW d mPlan_choose 0 (qen 8 [.ref 156, .int 0, .int 1, .ref r1, .ref r2, .ref 14]) [] (hpo X mem sw o e) (qcl d mPlan_fill 34 37 (lPlan_fill_37 r1 r2) [] P)) : QW (d + 1) mPlan_fill 25 (lPlan_fill_25 r1 r2) [.int s0] (hpo X mem sw o e) P := by
  show QW (d + 1) mPlan_fill 25 [.val (.ref 156), .val (.ref r1), .val (.ref r2), .val (.ref 14)] [.int s0] (hpo X mem sw o e) P
  refine QW.if_eq (tgt := 42) dPlan_fill_25 (by decide) (fun z0 => ?_) (fun z0 => ?_)
  · exact (k1 z0)
  · refine QW.aload_n dPlan_fill_28 rfl rfl ?_
    refine QW.iconst (v := 0) dPlan_fill_29 (by decide) ?_
    refine QW.iconst (v := 1) dPlan_fill_30 (by decide) ?_
    refine QW.aload_n dPlan_fill_31 rfl rfl ?_
    refine QW.aload_n dPlan_fill_32 rfl rfl ?_
    refine QW.aload_n dPlan_fill_33 rfl rfl ?_
    exact MW.calV (as := [.int 0, .int 1, .ref r1, .ref r2, .ref 14]) (rest := []) hX dPlan_fill_34 ePlan_choose lPlan_48 iPlan_choose vPlan_choose rfl rfl rfl rfl rfl rfl (Nat.le_of_ble_eq_true rfl) rfl (k2 z0)
theorem bPlan_fill_37 {r1 : Nat} {r2 : Nat} {s0 : Int32} (hX : X.length = 13) (hr1 : kBag r1) (hr2 : kBl r2) (k1 : (¬ s0 = 0) → QW d mPlan_fill 42 (lPlan_fill_42 r1 r2) [] (hpo X mem sw o e) P) (k2 : (s0 = 0) → P (.inl (some (.int 0)), (hpo X mem sw o e))) : QW d mPlan_fill 37 (lPlan_fill_37 r1 r2) [.int s0] (hpo X mem sw o e) P := by
  show QW d mPlan_fill 37 [.val (.ref 156), .val (.ref r1), .val (.ref r2), .val (.ref 14)] [.int s0] (hpo X mem sw o e) P
  refine QW.if_ne (tgt := 42) dPlan_fill_37 (by decide) (fun z0 => ?_) (fun z0 => ?_)
  · exact (k1 z0)
  · refine QW.iconst (v := 0) dPlan_fill_40 (by decide) ?_
    exact QW.iret dPlan_fill_41 rfl rfl (k2 z0)
theorem bPlan_fill_42 {r1 : Nat} {r2 : Nat} (hX : X.length = 13) (hr1 : kBag r1) (hr2 : kBl r2) (k1 : ((mem r2 0) = 0) → QW (d + 1) mPlan_fill 53 (lPlan_fill_53 r1 r2) [] (hpo X mem sw o e) P) (k2 : (¬ (mem r2 0) = 0) → QW d mBag_countEachOnce 0 (qen 2 [.ref r1]) [] (hpo X mem sw o e) (qcl d mPlan_fill 50 53 (lPlan_fill_53 r1 r2) [] P)) : QW (d + 1) mPlan_fill 42 (lPlan_fill_42 r1 r2) [] (hpo X mem sw o e) P := by
  show QW (d + 1) mPlan_fill 42 [.val (.ref 156), .val (.ref r1), .val (.ref r2), .val (.ref 14)] [] (hpo X mem sw o e) P
  refine QW.aload_n dPlan_fill_42 rfl rfl ?_
  refine MW.geti hX dPlan_fill_43 fPlan_52 (kBl_0 hr2) rfl ?_
  refine QW.if_eq (tgt := 53) dPlan_fill_46 (by decide) (fun z0 => ?_) (fun z0 => ?_)
  · exact (k1 z0)
  · refine QW.aload_n dPlan_fill_49 rfl rfl ?_
    exact MW.calV (as := []) (rest := []) hX dPlan_fill_50 eBag_countEachOnce lPlan_56 iBag_countEachOnce vBag_countEachOnce rfl rfl (kBag_0 hr1) rfl rfl rfl (Nat.le_of_ble_eq_true rfl) rfl (k2 z0)
theorem bPlan_fill_53 {r1 : Nat} {r2 : Nat} (hX : X.length = 13) (hr1 : kBag r1) (hr2 : kBl r2) (k1 : P (.inl (some (.int 1)), (hpo X mem sw o e))) : QW d mPlan_fill 53 (lPlan_fill_53 r1 r2) [] (hpo X mem sw o e) P := by
  show QW d mPlan_fill 53 [.val (.ref 156), .val (.ref r1), .val (.ref r2), .val (.ref 14)] [] (hpo X mem sw o e) P
  refine QW.iconst (v := 1) dPlan_fill_53 (by decide) ?_
  exact QW.iret dPlan_fill_54 rfl rfl k1
theorem dPlan_markUsed_0 : decode mPlan_markUsed.2.1 0 = .ok (.iconst 0, 1) := by decide +kernel
theorem dPlan_markUsed_1 : decode mPlan_markUsed.2.1 1 = .ok (.istore_n 2, 1) := by decide +kernel
theorem dPlan_markUsed_2 : decode mPlan_markUsed.2.1 2 = .ok (.iload_n 2, 1) := by decide +kernel
theorem dPlan_markUsed_3 : decode mPlan_markUsed.2.1 3 = .ok (.iconst 4, 1) := by decide +kernel
theorem dPlan_markUsed_4 : decode mPlan_markUsed.2.1 4 = .ok (.if_icmp .ge 16, 3) := by decide +kernel
theorem dPlan_markUsed_7 : decode mPlan_markUsed.2.1 7 = .ok (.aload_n 0, 1) := by decide +kernel
theorem dPlan_markUsed_8 : decode mPlan_markUsed.2.1 8 = .ok (.getfield 15, 3) := by decide +kernel
theorem dPlan_markUsed_11 : decode mPlan_markUsed.2.1 11 = .ok (.iload_n 2, 1) := by decide +kernel
theorem dPlan_markUsed_12 : decode mPlan_markUsed.2.1 12 = .ok (.iconst 0, 1) := by decide +kernel
theorem dPlan_markUsed_13 : decode mPlan_markUsed.2.1 13 = .ok (.bastore, 1) := by decide +kernel
theorem dPlan_markUsed_14 : decode mPlan_markUsed.2.1 14 = .ok (.iinc 2 1, 3) := by decide +kernel
theorem dPlan_markUsed_17 : decode mPlan_markUsed.2.1 17 = .ok (.goto (-15), 3) := by decide +kernel
theorem dPlan_markUsed_20 : decode mPlan_markUsed.2.1 20 = .ok (.iconst 0, 1) := by decide +kernel
theorem dPlan_markUsed_21 : decode mPlan_markUsed.2.1 21 = .ok (.istore_n 2, 1) := by decide +kernel
theorem dPlan_markUsed_22 : decode mPlan_markUsed.2.1 22 = .ok (.iload_n 2, 1) := by decide +kernel
theorem dPlan_markUsed_23 : decode mPlan_markUsed.2.1 23 = .ok (.bipush 15, 2) := by decide +kernel
theorem dPlan_markUsed_25 : decode mPlan_markUsed.2.1 25 = .ok (.if_icmp .ge 38, 3) := by decide +kernel
theorem dPlan_markUsed_28 : decode mPlan_markUsed.2.1 28 = .ok (.aload_n 1, 1) := by decide +kernel
theorem dPlan_markUsed_29 : decode mPlan_markUsed.2.1 29 = .ok (.iload_n 2, 1) := by decide +kernel
theorem dPlan_markUsed_30 : decode mPlan_markUsed.2.1 30 = .ok (.invokevirtual 59, 3) := by decide +kernel
theorem dPlan_markUsed_33 : decode mPlan_markUsed.2.1 33 = .ok (.ifCond .eq 24, 3) := by decide +kernel
theorem dPlan_markUsed_36 : decode mPlan_markUsed.2.1 36 = .ok (.aload_n 1, 1) := by decide +kernel
theorem dPlan_markUsed_37 : decode mPlan_markUsed.2.1 37 = .ok (.getfield 63, 3) := by decide +kernel
theorem dPlan_markUsed_40 : decode mPlan_markUsed.2.1 40 = .ok (.iload_n 2, 1) := by decide +kernel
theorem dPlan_markUsed_41 : decode mPlan_markUsed.2.1 41 = .ok (.iaload, 1) := by decide +kernel
theorem dPlan_markUsed_42 : decode mPlan_markUsed.2.1 42 = .ok (.ifCond .lt 15, 3) := by decide +kernel
theorem dPlan_markUsed_45 : decode mPlan_markUsed.2.1 45 = .ok (.aload_n 0, 1) := by decide +kernel
theorem dPlan_markUsed_46 : decode mPlan_markUsed.2.1 46 = .ok (.getfield 15, 3) := by decide +kernel
theorem dPlan_markUsed_49 : decode mPlan_markUsed.2.1 49 = .ok (.aload_n 1, 1) := by decide +kernel
theorem dPlan_markUsed_50 : decode mPlan_markUsed.2.1 50 = .ok (.getfield 63, 3) := by decide +kernel
theorem dPlan_markUsed_53 : decode mPlan_markUsed.2.1 53 = .ok (.iload_n 2, 1) := by decide +kernel
theorem dPlan_markUsed_54 : decode mPlan_markUsed.2.1 54 = .ok (.iaload, 1) := by decide +kernel
theorem dPlan_markUsed_55 : decode mPlan_markUsed.2.1 55 = .ok (.iconst 1, 1) := by decide +kernel
theorem dPlan_markUsed_56 : decode mPlan_markUsed.2.1 56 = .ok (.bastore, 1) := by decide +kernel
theorem dPlan_markUsed_57 : decode mPlan_markUsed.2.1 57 = .ok (.iinc 2 1, 3) := by decide +kernel
theorem dPlan_markUsed_60 : decode mPlan_markUsed.2.1 60 = .ok (.goto (-38), 3) := by decide +kernel
theorem dPlan_markUsed_63 : decode mPlan_markUsed.2.1 63 = .ok (.return_, 1) := by decide +kernel
def lPlan_markUsed_2 (a2 : Int32) (r1 : Nat) : List Slot := [.val (.ref 156), .val (.ref r1), .val (.int a2)]
def lPlan_markUsed_22 (a2 : Int32) (r1 : Nat) : List Slot := [.val (.ref 156), .val (.ref r1), .val (.int a2)]
def lPlan_markUsed_33 (a2 : Int32) (r1 : Nat) : List Slot := [.val (.ref 156), .val (.ref r1), .val (.int a2)]
theorem bPlan_markUsed_0 {r1 : Nat} (hX : X.length = 13) (hr1 : kBl r1) (k1 : QW d mPlan_markUsed 2 (lPlan_markUsed_2 0 r1) [] (hpo X mem sw o e) P) : QW d mPlan_markUsed 0 (qen 3 [.ref 156, .ref r1]) [] (hpo X mem sw o e) P := by
  show QW d mPlan_markUsed 0 [.val (.ref 156), .val (.ref r1), .unset] [] (hpo X mem sw o e) P
  refine QW.iconst (v := 0) dPlan_markUsed_0 (by decide) ?_
  refine QW.istore_n (ls' := [.val (.ref 156), .val (.ref r1), .val (.int 0)]) dPlan_markUsed_1 rfl rfl ?_
  exact k1
theorem bPlan_markUsed_2 {r1 : Nat} {a2 : Int32} (hX : X.length = 13) (hr1 : kBl r1) (k1 : (4 ≤ a2) → QW d mPlan_markUsed 22 (lPlan_markUsed_22 0 r1) [] (hpo X mem sw o e) P) (h2 : (¬ 4 ≤ a2) → inx a2 4) (k3 : (¬ 4 ≤ a2) → QW d mPlan_markUsed 2 (lPlan_markUsed_2 (a2 + 1) r1) [] (hpo X (mup mem 158 (Int32.toNatClampNeg a2) 0) sw o e) P) : QW d mPlan_markUsed 2 (lPlan_markUsed_2 a2 r1) [] (hpo X mem sw o e) P := by
  show QW d mPlan_markUsed 2 [.val (.ref 156), .val (.ref r1), .val (.int a2)] [] (hpo X mem sw o e) P
  refine QW.iload_n dPlan_markUsed_2 rfl rfl ?_
  refine QW.iconst (v := 4) dPlan_markUsed_3 (by decide) ?_
  refine QW.icmp_ge (tgt := 20) dPlan_markUsed_4 (by decide) (fun z0 => ?_) (fun z0 => ?_)
  · refine QW.iconst (v := 0) dPlan_markUsed_20 (by decide) ?_
    refine QW.istore_n (ls' := [.val (.ref 156), .val (.ref r1), .val (.int 0)]) dPlan_markUsed_21 rfl rfl ?_
    exact (k1 z0)
  · refine QW.aload_n dPlan_markUsed_7 rfl rfl ?_
    refine MW.getr (r' := 158) hX dPlan_markUsed_8 fPlan_15 rfl rfl (by cases sw <;> rfl) ?_
    refine QW.iload_n dPlan_markUsed_11 rfl rfl ?_
    refine QW.iconst (v := 0) dPlan_markUsed_12 (by decide) ?_
    refine MW.zast hX dPlan_markUsed_13 rfl (h2 z0).1 (rep_get (h2 z0).2) rfl ?_
    refine MW.iinc (c := 1) (ls' := [.val (.ref 156), .val (.ref r1), .val (.int (a2 + 1))]) dPlan_markUsed_14 (by decide) rfl rfl ?_
    refine QW.goto (tgt := 2) dPlan_markUsed_17 (by decide) ?_
    exact (k3 z0)
theorem bPlan_markUsed_22 {r1 : Nat} {a2 : Int32} (hX : X.length = 13) (hr1 : kBl r1) (k1 : (15 ≤ a2) → P (.inl none, (hpo X mem sw o e))) (k2 : (¬ 15 ≤ a2) → QW d mBl_isUsed 0 (qen 2 [.ref r1, .int a2]) [] (hpo X mem sw o e) (qcl d mPlan_markUsed 30 33 (lPlan_markUsed_33 a2 r1) [] P)) : QW (d + 1) mPlan_markUsed 22 (lPlan_markUsed_22 a2 r1) [] (hpo X mem sw o e) P := by
  show QW (d + 1) mPlan_markUsed 22 [.val (.ref 156), .val (.ref r1), .val (.int a2)] [] (hpo X mem sw o e) P
  refine QW.iload_n dPlan_markUsed_22 rfl rfl ?_
  refine QW.bipush (v := 15) dPlan_markUsed_23 (by decide) ?_
  refine QW.icmp_ge (tgt := 63) dPlan_markUsed_25 (by decide) (fun z0 => ?_) (fun z0 => ?_)
  · exact QW.vret dPlan_markUsed_63 rfl (k1 z0)
  · refine QW.aload_n dPlan_markUsed_28 rfl rfl ?_
    refine QW.iload_n dPlan_markUsed_29 rfl rfl ?_
    exact MW.calV (as := [.int a2]) (rest := []) hX dPlan_markUsed_30 eBl_isUsed lPlan_59 iBl_isUsed vBl_isUsed rfl rfl (kBl_0 hr1) rfl rfl rfl (Nat.le_of_ble_eq_true rfl) rfl (k2 z0)
theorem bPlan_markUsed_33 {r1 : Nat} {a2 : Int32} {s0 : Int32} (hX : X.length = 13) (hr1 : kBl r1) (k1 : (s0 = 0) → QW d mPlan_markUsed 22 (lPlan_markUsed_22 (a2 + 1) r1) [] (hpo X mem sw o e) P) (h2 : (¬ s0 = 0) → inx a2 15) (k3 : (¬ s0 = 0) → ((mem (r1 + 5) (Int32.toNatClampNeg a2)) < 0) → QW d mPlan_markUsed 22 (lPlan_markUsed_22 (a2 + 1) r1) [] (hpo X mem sw o e) P) (h4 : (¬ s0 = 0) → (¬ (mem (r1 + 5) (Int32.toNatClampNeg a2)) < 0) → inx a2 15) (h5 : (¬ s0 = 0) → (¬ (mem (r1 + 5) (Int32.toNatClampNeg a2)) < 0) → inx (mem (r1 + 5) (Int32.toNatClampNeg a2)) 4) (k6 : (¬ s0 = 0) → (¬ (mem (r1 + 5) (Int32.toNatClampNeg a2)) < 0) → QW d mPlan_markUsed 22 (lPlan_markUsed_22 (a2 + 1) r1) [] (hpo X (mup mem 158 (Int32.toNatClampNeg (mem (r1 + 5) (Int32.toNatClampNeg a2))) 1) sw o e) P) : QW d mPlan_markUsed 33 (lPlan_markUsed_33 a2 r1) [.int s0] (hpo X mem sw o e) P := by
  show QW d mPlan_markUsed 33 [.val (.ref 156), .val (.ref r1), .val (.int a2)] [.int s0] (hpo X mem sw o e) P
  refine QW.if_eq (tgt := 57) dPlan_markUsed_33 (by decide) (fun z0 => ?_) (fun z0 => ?_)
  · refine MW.iinc (c := 1) (ls' := [.val (.ref 156), .val (.ref r1), .val (.int (a2 + 1))]) dPlan_markUsed_57 (by decide) rfl rfl ?_
    refine QW.goto (tgt := 22) dPlan_markUsed_60 (by decide) ?_
    exact (k1 z0)
  · refine QW.aload_n dPlan_markUsed_36 rfl rfl ?_
    refine MW.getr (r' := (r1 + 5)) hX dPlan_markUsed_37 fPlan_63 (kBl_0 hr1) rfl (kBl_s5 hr1 _) ?_
    refine QW.iload_n dPlan_markUsed_40 rfl rfl ?_
    refine MW.iald hX dPlan_markUsed_41 (kBl_5 hr1) (h2 z0).1 (rep_get (h2 z0).2) ?_
    refine QW.if_lt (tgt := 57) dPlan_markUsed_42 (by decide) (fun z1 => ?_) (fun z1 => ?_)
    · refine MW.iinc (c := 1) (ls' := [.val (.ref 156), .val (.ref r1), .val (.int (a2 + 1))]) dPlan_markUsed_57 (by decide) rfl rfl ?_
      refine QW.goto (tgt := 22) dPlan_markUsed_60 (by decide) ?_
      exact (k3 z0 z1)
    · refine QW.aload_n dPlan_markUsed_45 rfl rfl ?_
      refine MW.getr (r' := 158) hX dPlan_markUsed_46 fPlan_15 rfl rfl (by cases sw <;> rfl) ?_
      refine QW.aload_n dPlan_markUsed_49 rfl rfl ?_
      refine MW.getr (r' := (r1 + 5)) hX dPlan_markUsed_50 fPlan_63 (kBl_0 hr1) rfl (kBl_s5 hr1 _) ?_
      refine QW.iload_n dPlan_markUsed_53 rfl rfl ?_
      refine MW.iald hX dPlan_markUsed_54 (kBl_5 hr1) (h4 z0 z1).1 (rep_get (h4 z0 z1).2) ?_
      refine QW.iconst (v := 1) dPlan_markUsed_55 (by decide) ?_
      refine MW.zast hX dPlan_markUsed_56 rfl (h5 z0 z1).1 (rep_get (h5 z0 z1).2) rfl ?_
      refine MW.iinc (c := 1) (ls' := [.val (.ref 156), .val (.ref r1), .val (.int (a2 + 1))]) dPlan_markUsed_57 (by decide) rfl rfl ?_
      refine QW.goto (tgt := 22) dPlan_markUsed_60 (by decide) ?_
      exact (k6 z0 z1)
theorem dPlan_choose_0 : decode mPlan_choose.2.1 0 = .ok (.iload_n 1, 1) := by decide +kernel
theorem dPlan_choose_1 : decode mPlan_choose.2.1 1 = .ok (.aload 4, 2) := by decide +kernel
theorem dPlan_choose_3 : decode mPlan_choose.2.1 3 = .ok (.getfield 82, 3) := by decide +kernel
theorem dPlan_choose_6 : decode mPlan_choose.2.1 6 = .ok (.if_icmp .lt 22, 3) := by decide +kernel
theorem dPlan_choose_9 : decode mPlan_choose.2.1 9 = .ok (.aload_n 0, 1) := by decide +kernel
theorem dPlan_choose_10 : decode mPlan_choose.2.1 10 = .ok (.aload 4, 2) := by decide +kernel
theorem dPlan_choose_12 : decode mPlan_choose.2.1 12 = .ok (.aload 5, 2) := by decide +kernel
theorem dPlan_choose_14 : decode mPlan_choose.2.1 14 = .ok (.invokevirtual 85, 3) := by decide +kernel
theorem dPlan_choose_17 : decode mPlan_choose.2.1 17 = .ok (.aload_n 3, 1) := by decide +kernel
theorem dPlan_choose_18 : decode mPlan_choose.2.1 18 = .ok (.aload_n 0, 1) := by decide +kernel
theorem dPlan_choose_19 : decode mPlan_choose.2.1 19 = .ok (.getfield 22, 3) := by decide +kernel
theorem dPlan_choose_22 : decode mPlan_choose.2.1 22 = .ok (.iconst 0, 1) := by decide +kernel
theorem dPlan_choose_23 : decode mPlan_choose.2.1 23 = .ok (.iload_n 2, 1) := by decide +kernel
theorem dPlan_choose_24 : decode mPlan_choose.2.1 24 = .ok (.invokevirtual 89, 3) := by decide +kernel
theorem dPlan_choose_27 : decode mPlan_choose.2.1 27 = .ok (.ireturn, 1) := by decide +kernel
theorem dPlan_choose_28 : decode mPlan_choose.2.1 28 = .ok (.aload 5, 2) := by decide +kernel
theorem dPlan_choose_30 : decode mPlan_choose.2.1 30 = .ok (.getfield 93, 3) := by decide +kernel
theorem dPlan_choose_33 : decode mPlan_choose.2.1 33 = .ok (.aload 4, 2) := by decide +kernel
theorem dPlan_choose_35 : decode mPlan_choose.2.1 35 = .ok (.getfield 99, 3) := by decide +kernel
theorem dPlan_choose_38 : decode mPlan_choose.2.1 38 = .ok (.iload_n 1, 1) := by decide +kernel
theorem dPlan_choose_39 : decode mPlan_choose.2.1 39 = .ok (.iaload, 1) := by decide +kernel
theorem dPlan_choose_40 : decode mPlan_choose.2.1 40 = .ok (.aaload, 1) := by decide +kernel
theorem dPlan_choose_41 : decode mPlan_choose.2.1 41 = .ok (.getfield 102, 3) := by decide +kernel
theorem dPlan_choose_44 : decode mPlan_choose.2.1 44 = .ok (.istore 6, 2) := by decide +kernel
theorem dPlan_choose_46 : decode mPlan_choose.2.1 46 = .ok (.aload_n 0, 1) := by decide +kernel
theorem dPlan_choose_47 : decode mPlan_choose.2.1 47 = .ok (.getfield 15, 3) := by decide +kernel
theorem dPlan_choose_50 : decode mPlan_choose.2.1 50 = .ok (.iload_n 1, 1) := by decide +kernel
theorem dPlan_choose_51 : decode mPlan_choose.2.1 51 = .ok (.baload, 1) := by decide +kernel
theorem dPlan_choose_52 : decode mPlan_choose.2.1 52 = .ok (.ifCond .ne 33, 3) := by decide +kernel
theorem dPlan_choose_55 : decode mPlan_choose.2.1 55 = .ok (.iload 6, 2) := by decide +kernel
theorem dPlan_choose_57 : decode mPlan_choose.2.1 57 = .ok (.ifCond .eq 22, 3) := by decide +kernel
theorem dPlan_choose_60 : decode mPlan_choose.2.1 60 = .ok (.aload_n 0, 1) := by decide +kernel
theorem dPlan_choose_61 : decode mPlan_choose.2.1 61 = .ok (.iload_n 1, 1) := by decide +kernel
theorem dPlan_choose_62 : decode mPlan_choose.2.1 62 = .ok (.iconst 1, 1) := by decide +kernel
theorem dPlan_choose_63 : decode mPlan_choose.2.1 63 = .ok (.iadd, 1) := by decide +kernel
theorem dPlan_choose_64 : decode mPlan_choose.2.1 64 = .ok (.iload_n 2, 1) := by decide +kernel
theorem dPlan_choose_65 : decode mPlan_choose.2.1 65 = .ok (.iload 6, 2) := by decide +kernel
theorem dPlan_choose_67 : decode mPlan_choose.2.1 67 = .ok (.imul, 1) := by decide +kernel
theorem dPlan_choose_68 : decode mPlan_choose.2.1 68 = .ok (.aload_n 3, 1) := by decide +kernel
theorem dPlan_choose_69 : decode mPlan_choose.2.1 69 = .ok (.aload 4, 2) := by decide +kernel
theorem dPlan_choose_71 : decode mPlan_choose.2.1 71 = .ok (.aload 5, 2) := by decide +kernel
theorem dPlan_choose_73 : decode mPlan_choose.2.1 73 = .ok (.invokevirtual 48, 3) := by decide +kernel
theorem dPlan_choose_76 : decode mPlan_choose.2.1 76 = .ok (.ifCond .eq 7, 3) := by decide +kernel
theorem dPlan_choose_79 : decode mPlan_choose.2.1 79 = .ok (.iconst 1, 1) := by decide +kernel
theorem dPlan_choose_80 : decode mPlan_choose.2.1 80 = .ok (.goto 4, 3) := by decide +kernel
theorem dPlan_choose_83 : decode mPlan_choose.2.1 83 = .ok (.iconst 0, 1) := by decide +kernel
theorem dPlan_choose_84 : decode mPlan_choose.2.1 84 = .ok (.ireturn, 1) := by decide +kernel
theorem dPlan_choose_85 : decode mPlan_choose.2.1 85 = .ok (.iconst 0, 1) := by decide +kernel
theorem dPlan_choose_86 : decode mPlan_choose.2.1 86 = .ok (.istore 7, 2) := by decide +kernel
theorem dPlan_choose_88 : decode mPlan_choose.2.1 88 = .ok (.iload 7, 2) := by decide +kernel
theorem dPlan_choose_90 : decode mPlan_choose.2.1 90 = .ok (.iload 6, 2) := by decide +kernel
theorem dPlan_choose_92 : decode mPlan_choose.2.1 92 = .ok (.if_icmp .ge 47, 3) := by decide +kernel
theorem dPlan_choose_95 : decode mPlan_choose.2.1 95 = .ok (.aload_n 0, 1) := by decide +kernel
theorem dPlan_choose_96 : decode mPlan_choose.2.1 96 = .ok (.getfield 9, 3) := by decide +kernel
theorem dPlan_choose_99 : decode mPlan_choose.2.1 99 = .ok (.iload_n 1, 1) := by decide +kernel
theorem dPlan_choose_100 : decode mPlan_choose.2.1 100 = .ok (.iload 7, 2) := by decide +kernel
theorem dPlan_choose_102 : decode mPlan_choose.2.1 102 = .ok (.iastore, 1) := by decide +kernel
theorem dPlan_choose_103 : decode mPlan_choose.2.1 103 = .ok (.aload_n 0, 1) := by decide +kernel
theorem dPlan_choose_104 : decode mPlan_choose.2.1 104 = .ok (.iload_n 1, 1) := by decide +kernel
theorem dPlan_choose_105 : decode mPlan_choose.2.1 105 = .ok (.aload 4, 2) := by decide +kernel
theorem dPlan_choose_107 : decode mPlan_choose.2.1 107 = .ok (.aload 5, 2) := by decide +kernel
theorem dPlan_choose_109 : decode mPlan_choose.2.1 109 = .ok (.invokevirtual 44, 3) := by decide +kernel
theorem dPlan_choose_112 : decode mPlan_choose.2.1 112 = .ok (.ifCond .eq 21, 3) := by decide +kernel
theorem dPlan_choose_115 : decode mPlan_choose.2.1 115 = .ok (.aload_n 0, 1) := by decide +kernel
theorem dPlan_choose_116 : decode mPlan_choose.2.1 116 = .ok (.iload_n 1, 1) := by decide +kernel
theorem dPlan_choose_117 : decode mPlan_choose.2.1 117 = .ok (.iconst 1, 1) := by decide +kernel
theorem dPlan_choose_118 : decode mPlan_choose.2.1 118 = .ok (.iadd, 1) := by decide +kernel
theorem dPlan_choose_119 : decode mPlan_choose.2.1 119 = .ok (.iload_n 2, 1) := by decide +kernel
theorem dPlan_choose_120 : decode mPlan_choose.2.1 120 = .ok (.aload_n 3, 1) := by decide +kernel
theorem dPlan_choose_121 : decode mPlan_choose.2.1 121 = .ok (.aload 4, 2) := by decide +kernel
theorem dPlan_choose_123 : decode mPlan_choose.2.1 123 = .ok (.aload 5, 2) := by decide +kernel
theorem dPlan_choose_125 : decode mPlan_choose.2.1 125 = .ok (.invokevirtual 48, 3) := by decide +kernel
theorem dPlan_choose_128 : decode mPlan_choose.2.1 128 = .ok (.ifCond .ne 5, 3) := by decide +kernel
theorem dPlan_choose_131 : decode mPlan_choose.2.1 131 = .ok (.iconst 0, 1) := by decide +kernel
theorem dPlan_choose_132 : decode mPlan_choose.2.1 132 = .ok (.ireturn, 1) := by decide +kernel
theorem dPlan_choose_133 : decode mPlan_choose.2.1 133 = .ok (.iinc 7 1, 3) := by decide +kernel
theorem dPlan_choose_136 : decode mPlan_choose.2.1 136 = .ok (.goto (-48), 3) := by decide +kernel
theorem dPlan_choose_139 : decode mPlan_choose.2.1 139 = .ok (.iconst 1, 1) := by decide +kernel
theorem dPlan_choose_140 : decode mPlan_choose.2.1 140 = .ok (.ireturn, 1) := by decide +kernel
def lPlan_choose_17 (a1 : Int32) (a2 : Int32) (r3 : Nat) (r4 : Nat) : List Slot := [.val (.ref 156), .val (.int a1), .val (.int a2), .val (.ref r3), .val (.ref r4), .val (.ref 14), .unset, .unset]
def lPlan_choose_27 (a1 : Int32) (a2 : Int32) (r3 : Nat) (r4 : Nat) : List Slot := [.val (.ref 156), .val (.int a1), .val (.int a2), .val (.ref r3), .val (.ref r4), .val (.ref 14), .unset, .unset]
def lPlan_choose_76 (a1 : Int32) (a2 : Int32) (a6 : Int32) (r3 : Nat) (r4 : Nat) : List Slot := [.val (.ref 156), .val (.int a1), .val (.int a2), .val (.ref r3), .val (.ref r4), .val (.ref 14), .val (.int a6), .unset]
def lPlan_choose_79 (a1 : Int32) (a2 : Int32) (a6 : Int32) (r3 : Nat) (r4 : Nat) : List Slot := [.val (.ref 156), .val (.int a1), .val (.int a2), .val (.ref r3), .val (.ref r4), .val (.ref 14), .val (.int a6), .unset]
def lPlan_choose_88 (a1 : Int32) (a2 : Int32) (a6 : Int32) (a7 : Int32) (r3 : Nat) (r4 : Nat) : List Slot := [.val (.ref 156), .val (.int a1), .val (.int a2), .val (.ref r3), .val (.ref r4), .val (.ref 14), .val (.int a6), .val (.int a7)]
def lPlan_choose_112 (a1 : Int32) (a2 : Int32) (a6 : Int32) (a7 : Int32) (r3 : Nat) (r4 : Nat) : List Slot := [.val (.ref 156), .val (.int a1), .val (.int a2), .val (.ref r3), .val (.ref r4), .val (.ref 14), .val (.int a6), .val (.int a7)]
def lPlan_choose_128 (a1 : Int32) (a2 : Int32) (a6 : Int32) (a7 : Int32) (r3 : Nat) (r4 : Nat) : List Slot := [.val (.ref 156), .val (.int a1), .val (.int a2), .val (.ref r3), .val (.ref r4), .val (.ref 14), .val (.int a6), .val (.int a7)]
theorem bPlan_choose_0 {r3 : Nat} {r4 : Nat} {a1 : Int32} {a2 : Int32} (hX : X.length = 13) (hr3 : kBag r3) (hr4 : kBl r4) (h1 : (a1 < (mem r4 2)) → inx a1 4) (h2 : (a1 < (mem r4 2)) → inx (mem (r4 + 1) (Int32.toNatClampNeg a1)) 4) (h3 : (a1 < (mem r4 2)) → inx a1 4) (k4 : (a1 < (mem r4 2)) → (¬ (mem 158 (Int32.toNatClampNeg a1)) = 0) → QW (d + 1) mPlan_choose 88 (lPlan_choose_88 a1 a2 (mem (16 + 3 * (Int32.toNatClampNeg (mem (r4 + 1) (Int32.toNatClampNeg a1)))) 1) 0 r3 r4) [] (hpo X mem sw o e) P) (k5 : (a1 < (mem r4 2)) → ((mem 158 (Int32.toNatClampNeg a1)) = 0) → ((mem (16 + 3 * (Int32.toNatClampNeg (mem (r4 + 1) (Int32.toNatClampNeg a1)))) 1) = 0) → QW (d + 1) mPlan_choose 79 (lPlan_choose_79 a1 a2 (mem (16 + 3 * (Int32.toNatClampNeg (mem (r4 + 1) (Int32.toNatClampNeg a1)))) 1) r3 r4) [] (hpo X mem sw o e) P) (k6 : (a1 < (mem r4 2)) → ((mem 158 (Int32.toNatClampNeg a1)) = 0) → (¬ (mem (16 + 3 * (Int32.toNatClampNeg (mem (r4 + 1) (Int32.toNatClampNeg a1)))) 1) = 0) → QW d mPlan_choose 0 (qen 8 [.ref 156, .int (a1 + 1), .int (a2 * (mem (16 + 3 * (Int32.toNatClampNeg (mem (r4 + 1) (Int32.toNatClampNeg a1)))) 1)), .ref r3, .ref r4, .ref 14]) [] (hpo X mem sw o e) (qcl d mPlan_choose 73 76 (lPlan_choose_76 a1 a2 (mem (16 + 3 * (Int32.toNatClampNeg (mem (r4 + 1) (Int32.toNatClampNeg a1)))) 1) r3 r4) [] P)) (k7 : (¬ a1 < (mem r4 2)) → QW d mPlan_setOutput 0 (qen 4 [.ref 156, .ref r4, .ref 14]) [] (hpo X mem sw o e) (qcl d mPlan_choose 14 17 (lPlan_choose_17 a1 a2 r3 r4) [] P)) : QW (d + 1) mPlan_choose 0 (qen 8 [.ref 156, .int a1, .int a2, .ref r3, .ref r4, .ref 14]) [] (hpo X mem sw o e) P := by
  show QW (d + 1) mPlan_choose 0 [.val (.ref 156), .val (.int a1), .val (.int a2), .val (.ref r3), .val (.ref r4), .val (.ref 14), .unset, .unset] [] (hpo X mem sw o e) P
  refine QW.iload_n dPlan_choose_0 rfl rfl ?_
  refine QW.aload dPlan_choose_1 rfl ?_
  refine MW.geti hX dPlan_choose_3 fPlan_82 (kBl_0 hr4) rfl ?_
  refine QW.icmp_lt (tgt := 28) dPlan_choose_6 (by decide) (fun z0 => ?_) (fun z0 => ?_)
  · refine QW.aload dPlan_choose_28 rfl ?_
    refine MW.getr (r' := 15) hX dPlan_choose_30 fPlan_93 rfl rfl (by cases sw <;> rfl) ?_
    refine QW.aload dPlan_choose_33 rfl ?_
    refine MW.getr (r' := (r4 + 1)) hX dPlan_choose_35 fPlan_99 (kBl_0 hr4) rfl (kBl_s1 hr4 _) ?_
    refine QW.iload_n dPlan_choose_38 rfl rfl ?_
    refine MW.iald hX dPlan_choose_39 (kBl_1 hr4) (h1 z0).1 (rep_get (h1 z0).2) ?_
    refine MW.aald (r' := (16 + 3 * (Int32.toNatClampNeg (mem (r4 + 1) (Int32.toNatClampNeg a1))))) hX dPlan_choose_40 rfl rfl (Nat.le_of_ble_eq_true rfl) (h2 z0).1 (el_tab (h2 z0).2) (sw_tab (h2 z0).2) ?_
    refine MW.geti hX dPlan_choose_41 fPlan_102 (kTab_0 (kTab_at (h2 z0).2)) rfl ?_
    refine QW.istore (ls' := [.val (.ref 156), .val (.int a1), .val (.int a2), .val (.ref r3), .val (.ref r4), .val (.ref 14), .val (.int (mem (16 + 3 * (Int32.toNatClampNeg (mem (r4 + 1) (Int32.toNatClampNeg a1)))) 1)), .unset]) dPlan_choose_44 rfl ?_
    refine QW.aload_n dPlan_choose_46 rfl rfl ?_
    refine MW.getr (r' := 158) hX dPlan_choose_47 fPlan_15 rfl rfl (by cases sw <;> rfl) ?_
    refine QW.iload_n dPlan_choose_50 rfl rfl ?_
    refine MW.zald hX dPlan_choose_51 rfl (h3 z0).1 (rep_get (h3 z0).2) ?_
    refine QW.if_ne (tgt := 85) dPlan_choose_52 (by decide) (fun z1 => ?_) (fun z1 => ?_)
    · refine QW.iconst (v := 0) dPlan_choose_85 (by decide) ?_
      refine QW.istore (ls' := [.val (.ref 156), .val (.int a1), .val (.int a2), .val (.ref r3), .val (.ref r4), .val (.ref 14), .val (.int (mem (16 + 3 * (Int32.toNatClampNeg (mem (r4 + 1) (Int32.toNatClampNeg a1)))) 1)), .val (.int 0)]) dPlan_choose_86 rfl ?_
      exact (k4 z0 z1)
    · refine QW.iload dPlan_choose_55 rfl ?_
      refine QW.if_eq (tgt := 79) dPlan_choose_57 (by decide) (fun z2 => ?_) (fun z2 => ?_)
      · exact (k5 z0 z1 z2)
      · refine QW.aload_n dPlan_choose_60 rfl rfl ?_
        refine QW.iload_n dPlan_choose_61 rfl rfl ?_
        refine QW.iconst (v := 1) dPlan_choose_62 (by decide) ?_
        refine QW.iadd dPlan_choose_63 ?_
        refine QW.iload_n dPlan_choose_64 rfl rfl ?_
        refine QW.iload dPlan_choose_65 rfl ?_
        refine QW.imul dPlan_choose_67 ?_
        refine QW.aload_n dPlan_choose_68 rfl rfl ?_
        refine QW.aload dPlan_choose_69 rfl ?_
        refine QW.aload dPlan_choose_71 rfl ?_
        exact MW.calV (as := [.int (a1 + 1), .int (a2 * (mem (16 + 3 * (Int32.toNatClampNeg (mem (r4 + 1) (Int32.toNatClampNeg a1)))) 1)), .ref r3, .ref r4, .ref 14]) (rest := []) hX dPlan_choose_73 ePlan_choose lPlan_48 iPlan_choose vPlan_choose rfl rfl rfl rfl rfl rfl (Nat.le_of_ble_eq_true rfl) rfl (k6 z0 z1 z2)
  · refine QW.aload_n dPlan_choose_9 rfl rfl ?_
    refine QW.aload dPlan_choose_10 rfl ?_
    refine QW.aload dPlan_choose_12 rfl ?_
    exact MW.calV (as := [.ref r4, .ref 14]) (rest := []) hX dPlan_choose_14 ePlan_setOutput lPlan_85 iPlan_setOutput vPlan_setOutput rfl rfl rfl rfl rfl rfl (Nat.le_of_ble_eq_true rfl) rfl (k7 z0)
theorem bPlan_choose_17 {r3 : Nat} {r4 : Nat} {a1 : Int32} {a2 : Int32} (hX : X.length = 13) (hr3 : kBag r3) (hr4 : kBl r4) (k1 : QW d mBag_add 0 (qen 5 [.ref r3, .ref 160, .int 0, .int a2]) [] (hpo X mem sw o e) (qcl d mPlan_choose 24 27 (lPlan_choose_27 a1 a2 r3 r4) [] P)) : QW (d + 1) mPlan_choose 17 (lPlan_choose_17 a1 a2 r3 r4) [] (hpo X mem sw o e) P := by
  show QW (d + 1) mPlan_choose 17 [.val (.ref 156), .val (.int a1), .val (.int a2), .val (.ref r3), .val (.ref r4), .val (.ref 14), .unset, .unset] [] (hpo X mem sw o e) P
  refine QW.aload_n dPlan_choose_17 rfl rfl ?_
  refine QW.aload_n dPlan_choose_18 rfl rfl ?_
  refine MW.getr (r' := 160) hX dPlan_choose_19 fPlan_22 rfl rfl (by cases sw <;> rfl) ?_
  refine QW.iconst (v := 0) dPlan_choose_22 (by decide) ?_
  refine QW.iload_n dPlan_choose_23 rfl rfl ?_
  exact MW.calV (as := [.ref 160, .int 0, .int a2]) (rest := []) hX dPlan_choose_24 eBag_add lPlan_89 iBag_add vBag_add rfl rfl (kBag_0 hr3) rfl rfl rfl (Nat.le_of_ble_eq_true rfl) rfl k1
theorem bPlan_choose_27 {r3 : Nat} {r4 : Nat} {a1 : Int32} {a2 : Int32} {s0 : Int32} (hX : X.length = 13) (hr3 : kBag r3) (hr4 : kBl r4) (h1 : narrow .boolean (.int s0) = .int s0) (k2 : P (.inl (some (.int s0)), (hpo X mem sw o e))) : QW d mPlan_choose 27 (lPlan_choose_27 a1 a2 r3 r4) [.int s0] (hpo X mem sw o e) P := by
  show QW d mPlan_choose 27 [.val (.ref 156), .val (.int a1), .val (.int a2), .val (.ref r3), .val (.ref r4), .val (.ref 14), .unset, .unset] [.int s0] (hpo X mem sw o e) P
  exact QW.iret dPlan_choose_27 rfl h1 k2
theorem bPlan_choose_76 {r3 : Nat} {r4 : Nat} {a1 : Int32} {a2 : Int32} {a6 : Int32} {s0 : Int32} (hX : X.length = 13) (hr3 : kBag r3) (hr4 : kBl r4) (k1 : (s0 = 0) → P (.inl (some (.int 0)), (hpo X mem sw o e))) (k2 : (¬ s0 = 0) → QW d mPlan_choose 79 (lPlan_choose_79 a1 a2 a6 r3 r4) [] (hpo X mem sw o e) P) : QW d mPlan_choose 76 (lPlan_choose_76 a1 a2 a6 r3 r4) [.int s0] (hpo X mem sw o e) P := by
  show QW d mPlan_choose 76 [.val (.ref 156), .val (.int a1), .val (.int a2), .val (.ref r3), .val (.ref r4), .val (.ref 14), .val (.int a6), .unset] [.int s0] (hpo X mem sw o e) P
  refine QW.if_eq (tgt := 83) dPlan_choose_76 (by decide) (fun z0 => ?_) (fun z0 => ?_)
  · refine QW.iconst (v := 0) dPlan_choose_83 (by decide) ?_
    exact QW.iret dPlan_choose_84 rfl rfl (k1 z0)
  · exact (k2 z0)
theorem bPlan_choose_79 {r3 : Nat} {r4 : Nat} {a1 : Int32} {a2 : Int32} {a6 : Int32} (hX : X.length = 13) (hr3 : kBag r3) (hr4 : kBl r4) (k1 : P (.inl (some (.int 1)), (hpo X mem sw o e))) : QW d mPlan_choose 79 (lPlan_choose_79 a1 a2 a6 r3 r4) [] (hpo X mem sw o e) P := by
  show QW d mPlan_choose 79 [.val (.ref 156), .val (.int a1), .val (.int a2), .val (.ref r3), .val (.ref r4), .val (.ref 14), .val (.int a6), .unset] [] (hpo X mem sw o e) P
  refine QW.iconst (v := 1) dPlan_choose_79 (by decide) ?_
  refine QW.goto (tgt := 84) dPlan_choose_80 (by decide) ?_
  exact QW.iret dPlan_choose_84 rfl rfl k1
theorem bPlan_choose_88 {r3 : Nat} {r4 : Nat} {a1 : Int32} {a2 : Int32} {a6 : Int32} {a7 : Int32} (hX : X.length = 13) (hr3 : kBag r3) (hr4 : kBl r4) (k1 : (a6 ≤ a7) → P (.inl (some (.int 1)), (hpo X mem sw o e))) (h2 : (¬ a6 ≤ a7) → inx a1 4) (k3 : (¬ a6 ≤ a7) → QW d mPlan_holdsAt 0 (qen 7 [.ref 156, .int a1, .ref r4, .ref 14]) [] (hpo X (mup mem 157 (Int32.toNatClampNeg a1) a7) sw o e) (qcl d mPlan_choose 109 112 (lPlan_choose_112 a1 a2 a6 a7 r3 r4) [] P)) : QW (d + 1) mPlan_choose 88 (lPlan_choose_88 a1 a2 a6 a7 r3 r4) [] (hpo X mem sw o e) P := by
  show QW (d + 1) mPlan_choose 88 [.val (.ref 156), .val (.int a1), .val (.int a2), .val (.ref r3), .val (.ref r4), .val (.ref 14), .val (.int a6), .val (.int a7)] [] (hpo X mem sw o e) P
  refine QW.iload dPlan_choose_88 rfl ?_
  refine QW.iload dPlan_choose_90 rfl ?_
  refine QW.icmp_ge (tgt := 139) dPlan_choose_92 (by decide) (fun z0 => ?_) (fun z0 => ?_)
  · refine QW.iconst (v := 1) dPlan_choose_139 (by decide) ?_
    exact QW.iret dPlan_choose_140 rfl rfl (k1 z0)
  · refine QW.aload_n dPlan_choose_95 rfl rfl ?_
    refine MW.getr (r' := 157) hX dPlan_choose_96 fPlan_9 rfl rfl (by cases sw <;> rfl) ?_
    refine QW.iload_n dPlan_choose_99 rfl rfl ?_
    refine QW.iload dPlan_choose_100 rfl ?_
    refine MW.iast hX dPlan_choose_102 rfl (h2 z0).1 (rep_get (h2 z0).2) ?_
    refine QW.aload_n dPlan_choose_103 rfl rfl ?_
    refine QW.iload_n dPlan_choose_104 rfl rfl ?_
    refine QW.aload dPlan_choose_105 rfl ?_
    refine QW.aload dPlan_choose_107 rfl ?_
    exact MW.calV (as := [.int a1, .ref r4, .ref 14]) (rest := []) hX dPlan_choose_109 ePlan_holdsAt lPlan_44 iPlan_holdsAt vPlan_holdsAt rfl rfl rfl rfl rfl rfl (Nat.le_of_ble_eq_true rfl) rfl (k3 z0)
theorem bPlan_choose_112 {r3 : Nat} {r4 : Nat} {a1 : Int32} {a2 : Int32} {a6 : Int32} {a7 : Int32} {s0 : Int32} (hX : X.length = 13) (hr3 : kBag r3) (hr4 : kBl r4) (k1 : (s0 = 0) → QW (d + 1) mPlan_choose 88 (lPlan_choose_88 a1 a2 a6 (a7 + 1) r3 r4) [] (hpo X mem sw o e) P) (k2 : (¬ s0 = 0) → QW d mPlan_choose 0 (qen 8 [.ref 156, .int (a1 + 1), .int a2, .ref r3, .ref r4, .ref 14]) [] (hpo X mem sw o e) (qcl d mPlan_choose 125 128 (lPlan_choose_128 a1 a2 a6 a7 r3 r4) [] P)) : QW (d + 1) mPlan_choose 112 (lPlan_choose_112 a1 a2 a6 a7 r3 r4) [.int s0] (hpo X mem sw o e) P := by
  show QW (d + 1) mPlan_choose 112 [.val (.ref 156), .val (.int a1), .val (.int a2), .val (.ref r3), .val (.ref r4), .val (.ref 14), .val (.int a6), .val (.int a7)] [.int s0] (hpo X mem sw o e) P
  refine QW.if_eq (tgt := 133) dPlan_choose_112 (by decide) (fun z0 => ?_) (fun z0 => ?_)
  · refine MW.iinc (c := 1) (ls' := [.val (.ref 156), .val (.int a1), .val (.int a2), .val (.ref r3), .val (.ref r4), .val (.ref 14), .val (.int a6), .val (.int (a7 + 1))]) dPlan_choose_133 (by decide) rfl rfl ?_
    refine QW.goto (tgt := 88) dPlan_choose_136 (by decide) ?_
    exact (k1 z0)
  · refine QW.aload_n dPlan_choose_115 rfl rfl ?_
    refine QW.iload_n dPlan_choose_116 rfl rfl ?_
    refine QW.iconst (v := 1) dPlan_choose_117 (by decide) ?_
    refine QW.iadd dPlan_choose_118 ?_
    refine QW.iload_n dPlan_choose_119 rfl rfl ?_
    refine QW.aload_n dPlan_choose_120 rfl rfl ?_
    refine QW.aload dPlan_choose_121 rfl ?_
    refine QW.aload dPlan_choose_123 rfl ?_
    exact MW.calV (as := [.int (a1 + 1), .int a2, .ref r3, .ref r4, .ref 14]) (rest := []) hX dPlan_choose_125 ePlan_choose lPlan_48 iPlan_choose vPlan_choose rfl rfl rfl rfl rfl rfl (Nat.le_of_ble_eq_true rfl) rfl (k2 z0)
theorem bPlan_choose_128 {r3 : Nat} {r4 : Nat} {a1 : Int32} {a2 : Int32} {a6 : Int32} {a7 : Int32} {s0 : Int32} (hX : X.length = 13) (hr3 : kBag r3) (hr4 : kBl r4) (k1 : (¬ s0 = 0) → QW d mPlan_choose 88 (lPlan_choose_88 a1 a2 a6 (a7 + 1) r3 r4) [] (hpo X mem sw o e) P) (k2 : (s0 = 0) → P (.inl (some (.int 0)), (hpo X mem sw o e))) : QW d mPlan_choose 128 (lPlan_choose_128 a1 a2 a6 a7 r3 r4) [.int s0] (hpo X mem sw o e) P := by
  show QW d mPlan_choose 128 [.val (.ref 156), .val (.int a1), .val (.int a2), .val (.ref r3), .val (.ref r4), .val (.ref 14), .val (.int a6), .val (.int a7)] [.int s0] (hpo X mem sw o e) P
  refine QW.if_ne (tgt := 133) dPlan_choose_128 (by decide) (fun z0 => ?_) (fun z0 => ?_)
  · refine MW.iinc (c := 1) (ls' := [.val (.ref 156), .val (.int a1), .val (.int a2), .val (.ref r3), .val (.ref r4), .val (.ref 14), .val (.int a6), .val (.int (a7 + 1))]) dPlan_choose_133 (by decide) rfl rfl ?_
    refine QW.goto (tgt := 88) dPlan_choose_136 (by decide) ?_
    exact (k1 z0)
  · refine QW.iconst (v := 0) dPlan_choose_131 (by decide) ?_
    exact QW.iret dPlan_choose_132 rfl rfl (k2 z0)
theorem dPlan_setOutput_0 : decode mPlan_setOutput.2.1 0 = .ok (.iconst 0, 1) := by decide +kernel
theorem dPlan_setOutput_1 : decode mPlan_setOutput.2.1 1 = .ok (.istore_n 3, 1) := by decide +kernel
theorem dPlan_setOutput_2 : decode mPlan_setOutput.2.1 2 = .ok (.iload_n 3, 1) := by decide +kernel
theorem dPlan_setOutput_3 : decode mPlan_setOutput.2.1 3 = .ok (.aload_n 1, 1) := by decide +kernel
theorem dPlan_setOutput_4 : decode mPlan_setOutput.2.1 4 = .ok (.getfield 25, 3) := by decide +kernel
theorem dPlan_setOutput_7 : decode mPlan_setOutput.2.1 7 = .ok (.if_icmp .ge 22, 3) := by decide +kernel
theorem dPlan_setOutput_10 : decode mPlan_setOutput.2.1 10 = .ok (.aload_n 0, 1) := by decide +kernel
theorem dPlan_setOutput_11 : decode mPlan_setOutput.2.1 11 = .ok (.getfield 22, 3) := by decide +kernel
theorem dPlan_setOutput_14 : decode mPlan_setOutput.2.1 14 = .ok (.iload_n 3, 1) := by decide +kernel
theorem dPlan_setOutput_15 : decode mPlan_setOutput.2.1 15 = .ok (.aload_n 0, 1) := by decide +kernel
theorem dPlan_setOutput_16 : decode mPlan_setOutput.2.1 16 = .ok (.iload_n 3, 1) := by decide +kernel
theorem dPlan_setOutput_17 : decode mPlan_setOutput.2.1 17 = .ok (.aload_n 1, 1) := by decide +kernel
theorem dPlan_setOutput_18 : decode mPlan_setOutput.2.1 18 = .ok (.aload_n 2, 1) := by decide +kernel
theorem dPlan_setOutput_19 : decode mPlan_setOutput.2.1 19 = .ok (.invokevirtual 107, 3) := by decide +kernel
theorem dPlan_setOutput_22 : decode mPlan_setOutput.2.1 22 = .ok (.iastore, 1) := by decide +kernel
theorem dPlan_setOutput_23 : decode mPlan_setOutput.2.1 23 = .ok (.iinc 3 1, 3) := by decide +kernel
theorem dPlan_setOutput_26 : decode mPlan_setOutput.2.1 26 = .ok (.goto (-24), 3) := by decide +kernel
theorem dPlan_setOutput_29 : decode mPlan_setOutput.2.1 29 = .ok (.return_, 1) := by decide +kernel
def lPlan_setOutput_2 (a3 : Int32) (r1 : Nat) : List Slot := [.val (.ref 156), .val (.ref r1), .val (.ref 14), .val (.int a3)]
def lPlan_setOutput_22 (a3 : Int32) (r1 : Nat) : List Slot := [.val (.ref 156), .val (.ref r1), .val (.ref 14), .val (.int a3)]
theorem bPlan_setOutput_0 {r1 : Nat} (hX : X.length = 13) (hr1 : kBl r1) (k1 : QW d mPlan_setOutput 2 (lPlan_setOutput_2 0 r1) [] (hpo X mem sw o e) P) : QW d mPlan_setOutput 0 (qen 4 [.ref 156, .ref r1, .ref 14]) [] (hpo X mem sw o e) P := by
  show QW d mPlan_setOutput 0 [.val (.ref 156), .val (.ref r1), .val (.ref 14), .unset] [] (hpo X mem sw o e) P
  refine QW.iconst (v := 0) dPlan_setOutput_0 (by decide) ?_
  refine QW.istore_n (ls' := [.val (.ref 156), .val (.ref r1), .val (.ref 14), .val (.int 0)]) dPlan_setOutput_1 rfl rfl ?_
  exact k1
theorem bPlan_setOutput_2 {r1 : Nat} {a3 : Int32} (hX : X.length = 13) (hr1 : kBl r1) (k1 : ((mem r1 1) ≤ a3) → P (.inl none, (hpo X mem sw o e))) (k2 : (¬ (mem r1 1) ≤ a3) → QW d mPlan_valueOf 0 (qen 6 [.ref 156, .int a3, .ref r1, .ref 14]) [] (hpo X mem sw o e) (qcl d mPlan_setOutput 19 22 (lPlan_setOutput_22 a3 r1) [.int a3, .ref 160] P)) : QW (d + 1) mPlan_setOutput 2 (lPlan_setOutput_2 a3 r1) [] (hpo X mem sw o e) P := by
  show QW (d + 1) mPlan_setOutput 2 [.val (.ref 156), .val (.ref r1), .val (.ref 14), .val (.int a3)] [] (hpo X mem sw o e) P
  refine QW.iload_n dPlan_setOutput_2 rfl rfl ?_
  refine QW.aload_n dPlan_setOutput_3 rfl rfl ?_
  refine MW.geti hX dPlan_setOutput_4 fPlan_25 (kBl_0 hr1) rfl ?_
  refine QW.icmp_ge (tgt := 29) dPlan_setOutput_7 (by decide) (fun z0 => ?_) (fun z0 => ?_)
  · exact QW.vret dPlan_setOutput_29 rfl (k1 z0)
  · refine QW.aload_n dPlan_setOutput_10 rfl rfl ?_
    refine MW.getr (r' := 160) hX dPlan_setOutput_11 fPlan_22 rfl rfl (by cases sw <;> rfl) ?_
    refine QW.iload_n dPlan_setOutput_14 rfl rfl ?_
    refine QW.aload_n dPlan_setOutput_15 rfl rfl ?_
    refine QW.iload_n dPlan_setOutput_16 rfl rfl ?_
    refine QW.aload_n dPlan_setOutput_17 rfl rfl ?_
    refine QW.aload_n dPlan_setOutput_18 rfl rfl ?_
    exact MW.calV (as := [.int a3, .ref r1, .ref 14]) (rest := [.int a3, .ref 160]) hX dPlan_setOutput_19 ePlan_valueOf lPlan_107 iPlan_valueOf vPlan_valueOf rfl rfl rfl rfl rfl rfl (Nat.le_of_ble_eq_true rfl) rfl (k2 z0)
theorem bPlan_setOutput_22 {r1 : Nat} {a3 : Int32} {s2 : Int32} {s1 : Int32} (hX : X.length = 13) (hr1 : kBl r1) (h1 : inx s1 3) (k2 : QW d mPlan_setOutput 2 (lPlan_setOutput_2 (a3 + 1) r1) [] (hpo X (mup mem 160 (Int32.toNatClampNeg s1) s2) sw o e) P) : QW d mPlan_setOutput 22 (lPlan_setOutput_22 a3 r1) [.int s2, .int s1, .ref 160] (hpo X mem sw o e) P := by
  show QW d mPlan_setOutput 22 [.val (.ref 156), .val (.ref r1), .val (.ref 14), .val (.int a3)] [.int s2, .int s1, .ref 160] (hpo X mem sw o e) P
  refine MW.iast hX dPlan_setOutput_22 rfl h1.1 (rep_get h1.2) ?_
  refine MW.iinc (c := 1) (ls' := [.val (.ref 156), .val (.ref r1), .val (.ref 14), .val (.int (a3 + 1))]) dPlan_setOutput_23 (by decide) rfl rfl ?_
  refine QW.goto (tgt := 2) dPlan_setOutput_26 (by decide) ?_
  exact k2
theorem dPlan_holdsAt_0 : decode mPlan_holdsAt.2.1 0 = .ok (.iconst 0, 1) := by decide +kernel
theorem dPlan_holdsAt_1 : decode mPlan_holdsAt.2.1 1 = .ok (.istore 4, 2) := by decide +kernel
theorem dPlan_holdsAt_3 : decode mPlan_holdsAt.2.1 3 = .ok (.iload 4, 2) := by decide +kernel
theorem dPlan_holdsAt_5 : decode mPlan_holdsAt.2.1 5 = .ok (.aload_n 2, 1) := by decide +kernel
theorem dPlan_holdsAt_6 : decode mPlan_holdsAt.2.1 6 = .ok (.getfield 66, 3) := by decide +kernel
theorem dPlan_holdsAt_9 : decode mPlan_holdsAt.2.1 9 = .ok (.if_icmp .ge 75, 3) := by decide +kernel
theorem dPlan_holdsAt_12 : decode mPlan_holdsAt.2.1 12 = .ok (.aload_n 0, 1) := by decide +kernel
theorem dPlan_holdsAt_13 : decode mPlan_holdsAt.2.1 13 = .ok (.getfield 19, 3) := by decide +kernel
theorem dPlan_holdsAt_16 : decode mPlan_holdsAt.2.1 16 = .ok (.iload 4, 2) := by decide +kernel
theorem dPlan_holdsAt_18 : decode mPlan_holdsAt.2.1 18 = .ok (.iaload, 1) := by decide +kernel
theorem dPlan_holdsAt_19 : decode mPlan_holdsAt.2.1 19 = .ok (.iload_n 1, 1) := by decide +kernel
theorem dPlan_holdsAt_20 : decode mPlan_holdsAt.2.1 20 = .ok (.if_icmp .ne 58, 3) := by decide +kernel
theorem dPlan_holdsAt_23 : decode mPlan_holdsAt.2.1 23 = .ok (.aload_n 0, 1) := by decide +kernel
theorem dPlan_holdsAt_24 : decode mPlan_holdsAt.2.1 24 = .ok (.iload 4, 2) := by decide +kernel
theorem dPlan_holdsAt_26 : decode mPlan_holdsAt.2.1 26 = .ok (.invokestatic 69, 3) := by decide +kernel
theorem dPlan_holdsAt_29 : decode mPlan_holdsAt.2.1 29 = .ok (.aload_n 2, 1) := by decide +kernel
theorem dPlan_holdsAt_30 : decode mPlan_holdsAt.2.1 30 = .ok (.aload_n 3, 1) := by decide +kernel
theorem dPlan_holdsAt_31 : decode mPlan_holdsAt.2.1 31 = .ok (.invokevirtual 107, 3) := by decide +kernel
theorem dPlan_holdsAt_34 : decode mPlan_holdsAt.2.1 34 = .ok (.istore 5, 2) := by decide +kernel
theorem dPlan_holdsAt_36 : decode mPlan_holdsAt.2.1 36 = .ok (.aload_n 0, 1) := by decide +kernel
theorem dPlan_holdsAt_37 : decode mPlan_holdsAt.2.1 37 = .ok (.iload 4, 2) := by decide +kernel
theorem dPlan_holdsAt_39 : decode mPlan_holdsAt.2.1 39 = .ok (.invokestatic 73, 3) := by decide +kernel
theorem dPlan_holdsAt_42 : decode mPlan_holdsAt.2.1 42 = .ok (.aload_n 2, 1) := by decide +kernel
theorem dPlan_holdsAt_43 : decode mPlan_holdsAt.2.1 43 = .ok (.aload_n 3, 1) := by decide +kernel
theorem dPlan_holdsAt_44 : decode mPlan_holdsAt.2.1 44 = .ok (.invokevirtual 107, 3) := by decide +kernel
theorem dPlan_holdsAt_47 : decode mPlan_holdsAt.2.1 47 = .ok (.istore 6, 2) := by decide +kernel
theorem dPlan_holdsAt_49 : decode mPlan_holdsAt.2.1 49 = .ok (.aload_n 2, 1) := by decide +kernel
theorem dPlan_holdsAt_50 : decode mPlan_holdsAt.2.1 50 = .ok (.getfield 111, 3) := by decide +kernel
theorem dPlan_holdsAt_53 : decode mPlan_holdsAt.2.1 53 = .ok (.iload 4, 2) := by decide +kernel
theorem dPlan_holdsAt_55 : decode mPlan_holdsAt.2.1 55 = .ok (.baload, 1) := by decide +kernel
theorem dPlan_holdsAt_56 : decode mPlan_holdsAt.2.1 56 = .ok (.ifCond .eq 13, 3) := by decide +kernel
theorem dPlan_holdsAt_59 : decode mPlan_holdsAt.2.1 59 = .ok (.iload 5, 2) := by decide +kernel
theorem dPlan_holdsAt_61 : decode mPlan_holdsAt.2.1 61 = .ok (.iload 6, 2) := by decide +kernel
theorem dPlan_holdsAt_63 : decode mPlan_holdsAt.2.1 63 = .ok (.if_icmp .lt 15, 3) := by decide +kernel
theorem dPlan_holdsAt_66 : decode mPlan_holdsAt.2.1 66 = .ok (.goto 10, 3) := by decide +kernel
theorem dPlan_holdsAt_69 : decode mPlan_holdsAt.2.1 69 = .ok (.iload 5, 2) := by decide +kernel
theorem dPlan_holdsAt_71 : decode mPlan_holdsAt.2.1 71 = .ok (.iload 6, 2) := by decide +kernel
theorem dPlan_holdsAt_73 : decode mPlan_holdsAt.2.1 73 = .ok (.if_icmp .eq 5, 3) := by decide +kernel
theorem dPlan_holdsAt_76 : decode mPlan_holdsAt.2.1 76 = .ok (.iconst 0, 1) := by decide +kernel
theorem dPlan_holdsAt_77 : decode mPlan_holdsAt.2.1 77 = .ok (.ireturn, 1) := by decide +kernel
theorem dPlan_holdsAt_78 : decode mPlan_holdsAt.2.1 78 = .ok (.iinc 4 1, 3) := by decide +kernel
theorem dPlan_holdsAt_81 : decode mPlan_holdsAt.2.1 81 = .ok (.goto (-78), 3) := by decide +kernel
theorem dPlan_holdsAt_84 : decode mPlan_holdsAt.2.1 84 = .ok (.iconst 1, 1) := by decide +kernel
theorem dPlan_holdsAt_85 : decode mPlan_holdsAt.2.1 85 = .ok (.ireturn, 1) := by decide +kernel
def lPlan_holdsAt_3 (a1 : Int32) (a4 : Int32) (w5 : Slot) (w6 : Slot) (r2 : Nat) : List Slot := [.val (.ref 156), .val (.int a1), .val (.ref r2), .val (.ref 14), .val (.int a4), w5, w6]
def lPlan_holdsAt_29 (a1 : Int32) (a4 : Int32) (w5 : Slot) (w6 : Slot) (r2 : Nat) : List Slot := [.val (.ref 156), .val (.int a1), .val (.ref r2), .val (.ref 14), .val (.int a4), w5, w6]
def lPlan_holdsAt_34 (a1 : Int32) (a4 : Int32) (w5 : Slot) (w6 : Slot) (r2 : Nat) : List Slot := [.val (.ref 156), .val (.int a1), .val (.ref r2), .val (.ref 14), .val (.int a4), w5, w6]
def lPlan_holdsAt_42 (a1 : Int32) (a4 : Int32) (a5 : Int32) (w6 : Slot) (r2 : Nat) : List Slot := [.val (.ref 156), .val (.int a1), .val (.ref r2), .val (.ref 14), .val (.int a4), .val (.int a5), w6]
def lPlan_holdsAt_47 (a1 : Int32) (a4 : Int32) (a5 : Int32) (w6 : Slot) (r2 : Nat) : List Slot := [.val (.ref 156), .val (.int a1), .val (.ref r2), .val (.ref 14), .val (.int a4), .val (.int a5), w6]
theorem bPlan_holdsAt_0 {r2 : Nat} {a1 : Int32} (hX : X.length = 13) (hr2 : kBl r2) (k1 : QW d mPlan_holdsAt 3 (lPlan_holdsAt_3 a1 0 .unset .unset r2) [] (hpo X mem sw o e) P) : QW d mPlan_holdsAt 0 (qen 7 [.ref 156, .int a1, .ref r2, .ref 14]) [] (hpo X mem sw o e) P := by
  show QW d mPlan_holdsAt 0 [.val (.ref 156), .val (.int a1), .val (.ref r2), .val (.ref 14), .unset, .unset, .unset] [] (hpo X mem sw o e) P
  refine QW.iconst (v := 0) dPlan_holdsAt_0 (by decide) ?_
  refine QW.istore (ls' := [.val (.ref 156), .val (.int a1), .val (.ref r2), .val (.ref 14), .val (.int 0), .unset, .unset]) dPlan_holdsAt_1 rfl ?_
  exact k1
theorem bPlan_holdsAt_3 {r2 : Nat} {a1 : Int32} {a4 : Int32} {w5 : Slot} {w6 : Slot} (hX : X.length = 13) (hr2 : kBl r2) (hw5 : qfr w5) (hw6 : qfr w6) (k1 : ((mem r2 3) ≤ a4) → P (.inl (some (.int 1)), (hpo X mem sw o e))) (h2 : (¬ (mem r2 3) ≤ a4) → inx a4 6) (k3 : (¬ (mem r2 3) ≤ a4) → (¬ (mem 159 (Int32.toNatClampNeg a4)) = a1) → QW (d + 1) mPlan_holdsAt 3 (lPlan_holdsAt_3 a1 (a4 + 1) w5 w6 r2) [] (hpo X mem sw o e) P) (k4 : (¬ (mem r2 3) ≤ a4) → ((mem 159 (Int32.toNatClampNeg a4)) = a1) → QW d mBl_lowSlot 0 (qen 1 [.int a4]) [] (hpo X mem sw o e) (qcl d mPlan_holdsAt 26 29 (lPlan_holdsAt_29 a1 a4 w5 w6 r2) [.ref 156] P)) : QW (d + 1) mPlan_holdsAt 3 (lPlan_holdsAt_3 a1 a4 w5 w6 r2) [] (hpo X mem sw o e) P := by
  show QW (d + 1) mPlan_holdsAt 3 [.val (.ref 156), .val (.int a1), .val (.ref r2), .val (.ref 14), .val (.int a4), w5, w6] [] (hpo X mem sw o e) P
  refine QW.iload dPlan_holdsAt_3 rfl ?_
  refine QW.aload_n dPlan_holdsAt_5 rfl rfl ?_
  refine MW.geti hX dPlan_holdsAt_6 fPlan_66 (kBl_0 hr2) rfl ?_
  refine QW.icmp_ge (tgt := 84) dPlan_holdsAt_9 (by decide) (fun z0 => ?_) (fun z0 => ?_)
  · refine QW.iconst (v := 1) dPlan_holdsAt_84 (by decide) ?_
    exact QW.iret dPlan_holdsAt_85 rfl rfl (k1 z0)
  · refine QW.aload_n dPlan_holdsAt_12 rfl rfl ?_
    refine MW.getr (r' := 159) hX dPlan_holdsAt_13 fPlan_19 rfl rfl (by cases sw <;> rfl) ?_
    refine QW.iload dPlan_holdsAt_16 rfl ?_
    refine MW.iald hX dPlan_holdsAt_18 rfl (h2 z0).1 (rep_get (h2 z0).2) ?_
    refine QW.iload_n dPlan_holdsAt_19 rfl rfl ?_
    refine QW.icmp_ne (tgt := 78) dPlan_holdsAt_20 (by decide) (fun z1 => ?_) (fun z1 => ?_)
    · refine MW.iinc (c := 1) (ls' := [.val (.ref 156), .val (.int a1), .val (.ref r2), .val (.ref 14), .val (.int (a4 + 1)), w5, w6]) dPlan_holdsAt_78 (by decide) rfl rfl ?_
      refine QW.goto (tgt := 3) dPlan_holdsAt_81 (by decide) ?_
      exact (k3 z0 z1)
    · refine QW.aload_n dPlan_holdsAt_23 rfl rfl ?_
      refine QW.iload dPlan_holdsAt_24 rfl ?_
      exact MW.calS (as := [.int a4]) (rest := [.ref 156]) dPlan_holdsAt_26 eBl_lowSlot lPlan_69 sBl_lowSlot rfl rfl rfl (Nat.le_of_ble_eq_true rfl) rfl (k4 z0 z1)
theorem bPlan_holdsAt_29 {r2 : Nat} {a1 : Int32} {a4 : Int32} {w5 : Slot} {w6 : Slot} {s1 : Int32} (hX : X.length = 13) (hr2 : kBl r2) (hw5 : qfr w5) (hw6 : qfr w6) (k1 : QW d mPlan_valueOf 0 (qen 6 [.ref 156, .int s1, .ref r2, .ref 14]) [] (hpo X mem sw o e) (qcl d mPlan_holdsAt 31 34 (lPlan_holdsAt_34 a1 a4 w5 w6 r2) [] P)) : QW (d + 1) mPlan_holdsAt 29 (lPlan_holdsAt_29 a1 a4 w5 w6 r2) [.int s1, .ref 156] (hpo X mem sw o e) P := by
  show QW (d + 1) mPlan_holdsAt 29 [.val (.ref 156), .val (.int a1), .val (.ref r2), .val (.ref 14), .val (.int a4), w5, w6] [.int s1, .ref 156] (hpo X mem sw o e) P
  refine QW.aload_n dPlan_holdsAt_29 rfl rfl ?_
  refine QW.aload_n dPlan_holdsAt_30 rfl rfl ?_
  exact MW.calV (as := [.int s1, .ref r2, .ref 14]) (rest := []) hX dPlan_holdsAt_31 ePlan_valueOf lPlan_107 iPlan_valueOf vPlan_valueOf rfl rfl rfl rfl rfl rfl (Nat.le_of_ble_eq_true rfl) rfl k1
theorem bPlan_holdsAt_34 {r2 : Nat} {a1 : Int32} {a4 : Int32} {w5 : Slot} {w6 : Slot} {s0 : Int32} (hX : X.length = 13) (hr2 : kBl r2) (hw5 : qfr w5) (hw6 : qfr w6) (k1 : QW d mBl_highSlot 0 (qen 1 [.int a4]) [] (hpo X mem sw o e) (qcl d mPlan_holdsAt 39 42 (lPlan_holdsAt_42 a1 a4 s0 w6 r2) [.ref 156] P)) : QW (d + 1) mPlan_holdsAt 34 (lPlan_holdsAt_34 a1 a4 w5 w6 r2) [.int s0] (hpo X mem sw o e) P := by
  show QW (d + 1) mPlan_holdsAt 34 [.val (.ref 156), .val (.int a1), .val (.ref r2), .val (.ref 14), .val (.int a4), w5, w6] [.int s0] (hpo X mem sw o e) P
  refine QW.istore (ls' := [.val (.ref 156), .val (.int a1), .val (.ref r2), .val (.ref 14), .val (.int a4), .val (.int s0), w6]) dPlan_holdsAt_34 (by rcases hw5 with z | ⟨_, z⟩ | ⟨_, z⟩ <;> subst z <;> rfl) ?_
  refine QW.aload_n dPlan_holdsAt_36 rfl rfl ?_
  refine QW.iload dPlan_holdsAt_37 rfl ?_
  exact MW.calS (as := [.int a4]) (rest := [.ref 156]) dPlan_holdsAt_39 eBl_highSlot lPlan_73 sBl_highSlot rfl rfl rfl (Nat.le_of_ble_eq_true rfl) rfl k1
theorem bPlan_holdsAt_42 {r2 : Nat} {a1 : Int32} {a4 : Int32} {a5 : Int32} {w6 : Slot} {s1 : Int32} (hX : X.length = 13) (hr2 : kBl r2) (hw6 : qfr w6) (k1 : QW d mPlan_valueOf 0 (qen 6 [.ref 156, .int s1, .ref r2, .ref 14]) [] (hpo X mem sw o e) (qcl d mPlan_holdsAt 44 47 (lPlan_holdsAt_47 a1 a4 a5 w6 r2) [] P)) : QW (d + 1) mPlan_holdsAt 42 (lPlan_holdsAt_42 a1 a4 a5 w6 r2) [.int s1, .ref 156] (hpo X mem sw o e) P := by
  show QW (d + 1) mPlan_holdsAt 42 [.val (.ref 156), .val (.int a1), .val (.ref r2), .val (.ref 14), .val (.int a4), .val (.int a5), w6] [.int s1, .ref 156] (hpo X mem sw o e) P
  refine QW.aload_n dPlan_holdsAt_42 rfl rfl ?_
  refine QW.aload_n dPlan_holdsAt_43 rfl rfl ?_
  exact MW.calV (as := [.int s1, .ref r2, .ref 14]) (rest := []) hX dPlan_holdsAt_44 ePlan_valueOf lPlan_107 iPlan_valueOf vPlan_valueOf rfl rfl rfl rfl rfl rfl (Nat.le_of_ble_eq_true rfl) rfl k1
theorem bPlan_holdsAt_47 {r2 : Nat} {a1 : Int32} {a4 : Int32} {a5 : Int32} {w6 : Slot} {s0 : Int32} (hX : X.length = 13) (hr2 : kBl r2) (hw6 : qfr w6) (h1 : inx a4 6) (k2 : ((mem (r2 + 3) (Int32.toNatClampNeg a4)) = 0) → (a5 = s0) → QW d mPlan_holdsAt 3 (lPlan_holdsAt_3 a1 (a4 + 1) (.val (.int a5)) (.val (.int s0)) r2) [] (hpo X mem sw o e) P) (k3 : ((mem (r2 + 3) (Int32.toNatClampNeg a4)) = 0) → (¬ a5 = s0) → P (.inl (some (.int 0)), (hpo X mem sw o e))) (k4 : (¬ (mem (r2 + 3) (Int32.toNatClampNeg a4)) = 0) → (a5 < s0) → QW d mPlan_holdsAt 3 (lPlan_holdsAt_3 a1 (a4 + 1) (.val (.int a5)) (.val (.int s0)) r2) [] (hpo X mem sw o e) P) (k5 : (¬ (mem (r2 + 3) (Int32.toNatClampNeg a4)) = 0) → (¬ a5 < s0) → P (.inl (some (.int 0)), (hpo X mem sw o e))) : QW d mPlan_holdsAt 47 (lPlan_holdsAt_47 a1 a4 a5 w6 r2) [.int s0] (hpo X mem sw o e) P := by
  show QW d mPlan_holdsAt 47 [.val (.ref 156), .val (.int a1), .val (.ref r2), .val (.ref 14), .val (.int a4), .val (.int a5), w6] [.int s0] (hpo X mem sw o e) P
  refine QW.istore (ls' := [.val (.ref 156), .val (.int a1), .val (.ref r2), .val (.ref 14), .val (.int a4), .val (.int a5), .val (.int s0)]) dPlan_holdsAt_47 (by rcases hw6 with z | ⟨_, z⟩ | ⟨_, z⟩ <;> subst z <;> rfl) ?_
  refine QW.aload_n dPlan_holdsAt_49 rfl rfl ?_
  refine MW.getr (r' := (r2 + 3)) hX dPlan_holdsAt_50 fPlan_111 (kBl_0 hr2) rfl (kBl_s3 hr2 _) ?_
  refine QW.iload dPlan_holdsAt_53 rfl ?_
  refine MW.zald hX dPlan_holdsAt_55 (kBl_3 hr2) h1.1 (rep_get h1.2) ?_
  refine QW.if_eq (tgt := 69) dPlan_holdsAt_56 (by decide) (fun z0 => ?_) (fun z0 => ?_)
  · refine QW.iload dPlan_holdsAt_69 rfl ?_
    refine QW.iload dPlan_holdsAt_71 rfl ?_
    refine QW.icmp_eq (tgt := 78) dPlan_holdsAt_73 (by decide) (fun z1 => ?_) (fun z1 => ?_)
    · refine MW.iinc (c := 1) (ls' := [.val (.ref 156), .val (.int a1), .val (.ref r2), .val (.ref 14), .val (.int (a4 + 1)), .val (.int a5), .val (.int s0)]) dPlan_holdsAt_78 (by decide) rfl rfl ?_
      refine QW.goto (tgt := 3) dPlan_holdsAt_81 (by decide) ?_
      exact (k2 z0 z1)
    · refine QW.iconst (v := 0) dPlan_holdsAt_76 (by decide) ?_
      exact QW.iret dPlan_holdsAt_77 rfl rfl (k3 z0 z1)
  · refine QW.iload dPlan_holdsAt_59 rfl ?_
    refine QW.iload dPlan_holdsAt_61 rfl ?_
    refine QW.icmp_lt (tgt := 78) dPlan_holdsAt_63 (by decide) (fun z1 => ?_) (fun z1 => ?_)
    · refine MW.iinc (c := 1) (ls' := [.val (.ref 156), .val (.int a1), .val (.ref r2), .val (.ref 14), .val (.int (a4 + 1)), .val (.int a5), .val (.int s0)]) dPlan_holdsAt_78 (by decide) rfl rfl ?_
      refine QW.goto (tgt := 3) dPlan_holdsAt_81 (by decide) ?_
      exact (k4 z0 z1)
    · refine QW.goto (tgt := 76) dPlan_holdsAt_66 (by decide) ?_
      refine QW.iconst (v := 0) dPlan_holdsAt_76 (by decide) ?_
      exact QW.iret dPlan_holdsAt_77 rfl rfl (k5 z0 z1)
theorem dPlan_valueOf_0 : decode mPlan_valueOf.2.1 0 = .ok (.aload_n 2, 1) := by decide +kernel
theorem dPlan_valueOf_1 : decode mPlan_valueOf.2.1 1 = .ok (.getfield 63, 3) := by decide +kernel
theorem dPlan_valueOf_4 : decode mPlan_valueOf.2.1 4 = .ok (.iload_n 1, 1) := by decide +kernel
theorem dPlan_valueOf_5 : decode mPlan_valueOf.2.1 5 = .ok (.iaload, 1) := by decide +kernel
theorem dPlan_valueOf_6 : decode mPlan_valueOf.2.1 6 = .ok (.istore 4, 2) := by decide +kernel
theorem dPlan_valueOf_8 : decode mPlan_valueOf.2.1 8 = .ok (.aload_n 2, 1) := by decide +kernel
theorem dPlan_valueOf_9 : decode mPlan_valueOf.2.1 9 = .ok (.getfield 114, 3) := by decide +kernel
theorem dPlan_valueOf_12 : decode mPlan_valueOf.2.1 12 = .ok (.iload_n 1, 1) := by decide +kernel
theorem dPlan_valueOf_13 : decode mPlan_valueOf.2.1 13 = .ok (.iaload, 1) := by decide +kernel
theorem dPlan_valueOf_14 : decode mPlan_valueOf.2.1 14 = .ok (.istore 5, 2) := by decide +kernel
theorem dPlan_valueOf_16 : decode mPlan_valueOf.2.1 16 = .ok (.iload 4, 2) := by decide +kernel
theorem dPlan_valueOf_18 : decode mPlan_valueOf.2.1 18 = .ok (.ifCond .ge 8, 3) := by decide +kernel
theorem dPlan_valueOf_21 : decode mPlan_valueOf.2.1 21 = .ok (.iload 5, 2) := by decide +kernel
theorem dPlan_valueOf_23 : decode mPlan_valueOf.2.1 23 = .ok (.goto 27, 3) := by decide +kernel
theorem dPlan_valueOf_26 : decode mPlan_valueOf.2.1 26 = .ok (.aload_n 3, 1) := by decide +kernel
theorem dPlan_valueOf_27 : decode mPlan_valueOf.2.1 27 = .ok (.getfield 93, 3) := by decide +kernel
theorem dPlan_valueOf_30 : decode mPlan_valueOf.2.1 30 = .ok (.aload_n 2, 1) := by decide +kernel
theorem dPlan_valueOf_31 : decode mPlan_valueOf.2.1 31 = .ok (.getfield 99, 3) := by decide +kernel
theorem dPlan_valueOf_34 : decode mPlan_valueOf.2.1 34 = .ok (.iload 4, 2) := by decide +kernel
theorem dPlan_valueOf_36 : decode mPlan_valueOf.2.1 36 = .ok (.iaload, 1) := by decide +kernel
theorem dPlan_valueOf_37 : decode mPlan_valueOf.2.1 37 = .ok (.aaload, 1) := by decide +kernel
theorem dPlan_valueOf_38 : decode mPlan_valueOf.2.1 38 = .ok (.aload_n 0, 1) := by decide +kernel
theorem dPlan_valueOf_39 : decode mPlan_valueOf.2.1 39 = .ok (.getfield 9, 3) := by decide +kernel
theorem dPlan_valueOf_42 : decode mPlan_valueOf.2.1 42 = .ok (.iload 4, 2) := by decide +kernel
theorem dPlan_valueOf_44 : decode mPlan_valueOf.2.1 44 = .ok (.iaload, 1) := by decide +kernel
theorem dPlan_valueOf_45 : decode mPlan_valueOf.2.1 45 = .ok (.iload 5, 2) := by decide +kernel
theorem dPlan_valueOf_47 : decode mPlan_valueOf.2.1 47 = .ok (.invokevirtual 117, 3) := by decide +kernel
theorem dPlan_valueOf_50 : decode mPlan_valueOf.2.1 50 = .ok (.ireturn, 1) := by decide +kernel
def lPlan_valueOf_50 (a1 : Int32) (a4 : Int32) (a5 : Int32) (r2 : Nat) : List Slot := [.val (.ref 156), .val (.int a1), .val (.ref r2), .val (.ref 14), .val (.int a4), .val (.int a5)]
theorem bPlan_valueOf_0 {r2 : Nat} {a1 : Int32} (hX : X.length = 13) (hr2 : kBl r2) (h1 : inx a1 15) (h2 : inx a1 15) (h3 : (0 ≤ (mem (r2 + 5) (Int32.toNatClampNeg a1))) → inx (mem (r2 + 5) (Int32.toNatClampNeg a1)) 4) (h4 : (0 ≤ (mem (r2 + 5) (Int32.toNatClampNeg a1))) → inx (mem (r2 + 1) (Int32.toNatClampNeg (mem (r2 + 5) (Int32.toNatClampNeg a1)))) 4) (h5 : (0 ≤ (mem (r2 + 5) (Int32.toNatClampNeg a1))) → inx (mem (r2 + 5) (Int32.toNatClampNeg a1)) 4) (k6 : (0 ≤ (mem (r2 + 5) (Int32.toNatClampNeg a1))) → QW d mTab_cell 0 (qen 3 [.ref (16 + 3 * (Int32.toNatClampNeg (mem (r2 + 1) (Int32.toNatClampNeg (mem (r2 + 5) (Int32.toNatClampNeg a1)))))), .int (mem 157 (Int32.toNatClampNeg (mem (r2 + 5) (Int32.toNatClampNeg a1)))), .int (mem (r2 + 6) (Int32.toNatClampNeg a1))]) [] (hpo X mem sw o e) (qcl d mPlan_valueOf 47 50 (lPlan_valueOf_50 a1 (mem (r2 + 5) (Int32.toNatClampNeg a1)) (mem (r2 + 6) (Int32.toNatClampNeg a1)) r2) [] P)) (k7 : (¬ 0 ≤ (mem (r2 + 5) (Int32.toNatClampNeg a1))) → QW (d + 1) mPlan_valueOf 50 (lPlan_valueOf_50 a1 (mem (r2 + 5) (Int32.toNatClampNeg a1)) (mem (r2 + 6) (Int32.toNatClampNeg a1)) r2) [.int (mem (r2 + 6) (Int32.toNatClampNeg a1))] (hpo X mem sw o e) P) : QW (d + 1) mPlan_valueOf 0 (qen 6 [.ref 156, .int a1, .ref r2, .ref 14]) [] (hpo X mem sw o e) P := by
  show QW (d + 1) mPlan_valueOf 0 [.val (.ref 156), .val (.int a1), .val (.ref r2), .val (.ref 14), .unset, .unset] [] (hpo X mem sw o e) P
  refine QW.aload_n dPlan_valueOf_0 rfl rfl ?_
  refine MW.getr (r' := (r2 + 5)) hX dPlan_valueOf_1 fPlan_63 (kBl_0 hr2) rfl (kBl_s5 hr2 _) ?_
  refine QW.iload_n dPlan_valueOf_4 rfl rfl ?_
  refine MW.iald hX dPlan_valueOf_5 (kBl_5 hr2) h1.1 (rep_get h1.2) ?_
  refine QW.istore (ls' := [.val (.ref 156), .val (.int a1), .val (.ref r2), .val (.ref 14), .val (.int (mem (r2 + 5) (Int32.toNatClampNeg a1))), .unset]) dPlan_valueOf_6 rfl ?_
  refine QW.aload_n dPlan_valueOf_8 rfl rfl ?_
  refine MW.getr (r' := (r2 + 6)) hX dPlan_valueOf_9 fPlan_114 (kBl_0 hr2) rfl (kBl_s6 hr2 _) ?_
  refine QW.iload_n dPlan_valueOf_12 rfl rfl ?_
  refine MW.iald hX dPlan_valueOf_13 (kBl_6 hr2) h2.1 (rep_get h2.2) ?_
  refine QW.istore (ls' := [.val (.ref 156), .val (.int a1), .val (.ref r2), .val (.ref 14), .val (.int (mem (r2 + 5) (Int32.toNatClampNeg a1))), .val (.int (mem (r2 + 6) (Int32.toNatClampNeg a1)))]) dPlan_valueOf_14 rfl ?_
  refine QW.iload dPlan_valueOf_16 rfl ?_
  refine QW.if_ge (tgt := 26) dPlan_valueOf_18 (by decide) (fun z0 => ?_) (fun z0 => ?_)
  · refine QW.aload_n dPlan_valueOf_26 rfl rfl ?_
    refine MW.getr (r' := 15) hX dPlan_valueOf_27 fPlan_93 rfl rfl (by cases sw <;> rfl) ?_
    refine QW.aload_n dPlan_valueOf_30 rfl rfl ?_
    refine MW.getr (r' := (r2 + 1)) hX dPlan_valueOf_31 fPlan_99 (kBl_0 hr2) rfl (kBl_s1 hr2 _) ?_
    refine QW.iload dPlan_valueOf_34 rfl ?_
    refine MW.iald hX dPlan_valueOf_36 (kBl_1 hr2) (h3 z0).1 (rep_get (h3 z0).2) ?_
    refine MW.aald (r' := (16 + 3 * (Int32.toNatClampNeg (mem (r2 + 1) (Int32.toNatClampNeg (mem (r2 + 5) (Int32.toNatClampNeg a1))))))) hX dPlan_valueOf_37 rfl rfl (Nat.le_of_ble_eq_true rfl) (h4 z0).1 (el_tab (h4 z0).2) (sw_tab (h4 z0).2) ?_
    refine QW.aload_n dPlan_valueOf_38 rfl rfl ?_
    refine MW.getr (r' := 157) hX dPlan_valueOf_39 fPlan_9 rfl rfl (by cases sw <;> rfl) ?_
    refine QW.iload dPlan_valueOf_42 rfl ?_
    refine MW.iald hX dPlan_valueOf_44 rfl (h5 z0).1 (rep_get (h5 z0).2) ?_
    refine QW.iload dPlan_valueOf_45 rfl ?_
    exact MW.calV (as := [.int (mem 157 (Int32.toNatClampNeg (mem (r2 + 5) (Int32.toNatClampNeg a1)))), .int (mem (r2 + 6) (Int32.toNatClampNeg a1))]) (rest := []) hX dPlan_valueOf_47 eTab_cell lPlan_117 iTab_cell vTab_cell rfl rfl (kTab_0 (kTab_at (h4 z0).2)) rfl rfl rfl (Nat.le_of_ble_eq_true rfl) rfl (k6 z0)
  · refine QW.iload dPlan_valueOf_21 rfl ?_
    refine QW.goto (tgt := 50) dPlan_valueOf_23 (by decide) ?_
    exact (k7 z0)
theorem bPlan_valueOf_50 {r2 : Nat} {a1 : Int32} {a4 : Int32} {a5 : Int32} {s0 : Int32} (hX : X.length = 13) (hr2 : kBl r2) (k1 : P (.inl (some (.int s0)), (hpo X mem sw o e))) : QW d mPlan_valueOf 50 (lPlan_valueOf_50 a1 a4 a5 r2) [.int s0] (hpo X mem sw o e) P := by
  show QW d mPlan_valueOf 50 [.val (.ref 156), .val (.int a1), .val (.ref r2), .val (.ref 14), .val (.int a4), .val (.int a5)] [.int s0] (hpo X mem sw o e) P
  exact QW.iret dPlan_valueOf_50 rfl rfl k1
theorem dRd_read_0 : decode mRd_read.2.1 0 = .ok (.aload_n 0, 1) := by decide +kernel
theorem dRd_read_1 : decode mRd_read.2.1 1 = .ok (.getfield 12, 3) := by decide +kernel
theorem dRd_read_4 : decode mRd_read.2.1 4 = .ok (.aload_n 1, 1) := by decide +kernel
theorem dRd_read_5 : decode mRd_read.2.1 5 = .ok (.invokevirtual 18, 3) := by decide +kernel
theorem dRd_read_8 : decode mRd_read.2.1 8 = .ok (.aload_n 3, 1) := by decide +kernel
theorem dRd_read_9 : decode mRd_read.2.1 9 = .ok (.iconst 0, 1) := by decide +kernel
theorem dRd_read_10 : decode mRd_read.2.1 10 = .ok (.putfield 22, 3) := by decide +kernel
theorem dRd_read_13 : decode mRd_read.2.1 13 = .ok (.iconst 0, 1) := by decide +kernel
theorem dRd_read_14 : decode mRd_read.2.1 14 = .ok (.istore 4, 2) := by decide +kernel
theorem dRd_read_16 : decode mRd_read.2.1 16 = .ok (.iload 4, 2) := by decide +kernel
theorem dRd_read_18 : decode mRd_read.2.1 18 = .ok (.iconst 3, 1) := by decide +kernel
theorem dRd_read_19 : decode mRd_read.2.1 19 = .ok (.if_icmp .ge 141, 3) := by decide +kernel
theorem dRd_read_22 : decode mRd_read.2.1 22 = .ok (.aload_n 0, 1) := by decide +kernel
theorem dRd_read_23 : decode mRd_read.2.1 23 = .ok (.getfield 12, 3) := by decide +kernel
theorem dRd_read_26 : decode mRd_read.2.1 26 = .ok (.invokevirtual 28, 3) := by decide +kernel
theorem dRd_read_29 : decode mRd_read.2.1 29 = .ok (.istore 5, 2) := by decide +kernel
theorem dRd_read_31 : decode mRd_read.2.1 31 = .ok (.aload_n 3, 1) := by decide +kernel
theorem dRd_read_32 : decode mRd_read.2.1 32 = .ok (.getfield 32, 3) := by decide +kernel
theorem dRd_read_35 : decode mRd_read.2.1 35 = .ok (.iload 4, 2) := by decide +kernel
theorem dRd_read_37 : decode mRd_read.2.1 37 = .ok (.aaload, 1) := by decide +kernel
theorem dRd_read_38 : decode mRd_read.2.1 38 = .ok (.astore 6, 2) := by decide +kernel
theorem dRd_read_40 : decode mRd_read.2.1 40 = .ok (.aload_n 0, 1) := by decide +kernel
theorem dRd_read_41 : decode mRd_read.2.1 41 = .ok (.aload 6, 2) := by decide +kernel
theorem dRd_read_43 : decode mRd_read.2.1 43 = .ok (.aload_n 2, 1) := by decide +kernel
theorem dRd_read_44 : decode mRd_read.2.1 44 = .ok (.invokevirtual 36, 3) := by decide +kernel
theorem dRd_read_47 : decode mRd_read.2.1 47 = .ok (.ifCond .eq 10, 3) := by decide +kernel
theorem dRd_read_50 : decode mRd_read.2.1 50 = .ok (.aload_n 0, 1) := by decide +kernel
theorem dRd_read_51 : decode mRd_read.2.1 51 = .ok (.invokevirtual 40, 3) := by decide +kernel
theorem dRd_read_54 : decode mRd_read.2.1 54 = .ok (.ifCond .ne 11, 3) := by decide +kernel
theorem dRd_read_57 : decode mRd_read.2.1 57 = .ok (.aload_n 0, 1) := by decide +kernel
theorem dRd_read_58 : decode mRd_read.2.1 58 = .ok (.getfield 12, 3) := by decide +kernel
theorem dRd_read_61 : decode mRd_read.2.1 61 = .ok (.invokevirtual 28, 3) := by decide +kernel
theorem dRd_read_64 : decode mRd_read.2.1 64 = .ok (.ireturn, 1) := by decide +kernel
theorem dRd_read_65 : decode mRd_read.2.1 65 = .ok (.aload 6, 2) := by decide +kernel
theorem dRd_read_67 : decode mRd_read.2.1 67 = .ok (.aload_n 2, 1) := by decide +kernel
theorem dRd_read_68 : decode mRd_read.2.1 68 = .ok (.invokevirtual 44, 3) := by decide +kernel
theorem dRd_read_71 : decode mRd_read.2.1 71 = .ok (.ifCond .eq 20, 3) := by decide +kernel
theorem dRd_read_74 : decode mRd_read.2.1 74 = .ok (.aload 6, 2) := by decide +kernel
theorem dRd_read_76 : decode mRd_read.2.1 76 = .ok (.getfield 50, 3) := by decide +kernel
theorem dRd_read_79 : decode mRd_read.2.1 79 = .ok (.aload_n 3, 1) := by decide +kernel
theorem dRd_read_80 : decode mRd_read.2.1 80 = .ok (.getfield 32, 3) := by decide +kernel
theorem dRd_read_83 : decode mRd_read.2.1 83 = .ok (.iconst 0, 1) := by decide +kernel
theorem dRd_read_84 : decode mRd_read.2.1 84 = .ok (.aaload, 1) := by decide +kernel
theorem dRd_read_85 : decode mRd_read.2.1 85 = .ok (.getfield 50, 3) := by decide +kernel
theorem dRd_read_88 : decode mRd_read.2.1 88 = .ok (.if_icmp .eq 6, 3) := by decide +kernel
theorem dRd_read_91 : decode mRd_read.2.1 91 = .ok (.iload 5, 2) := by decide +kernel
theorem dRd_read_93 : decode mRd_read.2.1 93 = .ok (.ireturn, 1) := by decide +kernel
theorem dRd_read_94 : decode mRd_read.2.1 94 = .ok (.aload_n 3, 1) := by decide +kernel
theorem dRd_read_95 : decode mRd_read.2.1 95 = .ok (.dup, 1) := by decide +kernel
theorem dRd_read_96 : decode mRd_read.2.1 96 = .ok (.getfield 22, 3) := by decide +kernel
theorem dRd_read_99 : decode mRd_read.2.1 99 = .ok (.iconst 1, 1) := by decide +kernel
theorem dRd_read_100 : decode mRd_read.2.1 100 = .ok (.iadd, 1) := by decide +kernel
theorem dRd_read_101 : decode mRd_read.2.1 101 = .ok (.putfield 22, 3) := by decide +kernel
theorem dRd_read_104 : decode mRd_read.2.1 104 = .ok (.aload_n 0, 1) := by decide +kernel
theorem dRd_read_105 : decode mRd_read.2.1 105 = .ok (.getfield 12, 3) := by decide +kernel
theorem dRd_read_108 : decode mRd_read.2.1 108 = .ok (.iconst 0, 1) := by decide +kernel
theorem dRd_read_109 : decode mRd_read.2.1 109 = .ok (.invokevirtual 53, 3) := by decide +kernel
theorem dRd_read_112 : decode mRd_read.2.1 112 = .ok (.ifCond .eq 5, 3) := by decide +kernel
theorem dRd_read_115 : decode mRd_read.2.1 115 = .ok (.iconst (-1), 1) := by decide +kernel
theorem dRd_read_116 : decode mRd_read.2.1 116 = .ok (.ireturn, 1) := by decide +kernel
theorem dRd_read_117 : decode mRd_read.2.1 117 = .ok (.iload 4, 2) := by decide +kernel
theorem dRd_read_119 : decode mRd_read.2.1 119 = .ok (.iconst 1, 1) := by decide +kernel
theorem dRd_read_120 : decode mRd_read.2.1 120 = .ok (.iadd, 1) := by decide +kernel
theorem dRd_read_121 : decode mRd_read.2.1 121 = .ok (.iconst 3, 1) := by decide +kernel
theorem dRd_read_122 : decode mRd_read.2.1 122 = .ok (.if_icmp .ge 32, 3) := by decide +kernel
theorem dRd_read_125 : decode mRd_read.2.1 125 = .ok (.aload_n 3, 1) := by decide +kernel
theorem dRd_read_126 : decode mRd_read.2.1 126 = .ok (.getfield 57, 3) := by decide +kernel
theorem dRd_read_129 : decode mRd_read.2.1 129 = .ok (.iload 4, 2) := by decide +kernel
theorem dRd_read_131 : decode mRd_read.2.1 131 = .ok (.aload_n 0, 1) := by decide +kernel
theorem dRd_read_132 : decode mRd_read.2.1 132 = .ok (.getfield 12, 3) := by decide +kernel
theorem dRd_read_135 : decode mRd_read.2.1 135 = .ok (.invokevirtual 61, 3) := by decide +kernel
theorem dRd_read_138 : decode mRd_read.2.1 138 = .ok (.iastore, 1) := by decide +kernel
theorem dRd_read_139 : decode mRd_read.2.1 139 = .ok (.aload_n 0, 1) := by decide +kernel
theorem dRd_read_140 : decode mRd_read.2.1 140 = .ok (.getfield 12, 3) := by decide +kernel
theorem dRd_read_143 : decode mRd_read.2.1 143 = .ok (.aload_n 0, 1) := by decide +kernel
theorem dRd_read_144 : decode mRd_read.2.1 144 = .ok (.getfield 12, 3) := by decide +kernel
theorem dRd_read_147 : decode mRd_read.2.1 147 = .ok (.invokevirtual 61, 3) := by decide +kernel
theorem dRd_read_150 : decode mRd_read.2.1 150 = .ok (.invokevirtual 64, 3) := by decide +kernel
theorem dRd_read_153 : decode mRd_read.2.1 153 = .ok (.pop, 1) := by decide +kernel
theorem dRd_read_154 : decode mRd_read.2.1 154 = .ok (.iinc 4 1, 3) := by decide +kernel
theorem dRd_read_157 : decode mRd_read.2.1 157 = .ok (.goto (-141), 3) := by decide +kernel
theorem dRd_read_160 : decode mRd_read.2.1 160 = .ok (.aload_n 0, 1) := by decide +kernel
theorem dRd_read_161 : decode mRd_read.2.1 161 = .ok (.getfield 12, 3) := by decide +kernel
theorem dRd_read_164 : decode mRd_read.2.1 164 = .ok (.invokevirtual 28, 3) := by decide +kernel
theorem dRd_read_167 : decode mRd_read.2.1 167 = .ok (.ireturn, 1) := by decide +kernel
def lRd_read_8 (r3 : Nat) : List Slot := [.val (.ref 30), .val (.ref 28), .val (.ref 14), .val (.ref r3), .unset, .unset, .unset]
def lRd_read_16 (a4 : Int32) (w5 : Slot) (w6 : Slot) (r3 : Nat) : List Slot := [.val (.ref 30), .val (.ref 28), .val (.ref 14), .val (.ref r3), .val (.int a4), w5, w6]
def lRd_read_29 (a4 : Int32) (w5 : Slot) (w6 : Slot) (r3 : Nat) : List Slot := [.val (.ref 30), .val (.ref 28), .val (.ref 14), .val (.ref r3), .val (.int a4), w5, w6]
def lRd_read_47 (a4 : Int32) (a5 : Int32) (r6 : Nat) (r3 : Nat) : List Slot := [.val (.ref 30), .val (.ref 28), .val (.ref 14), .val (.ref r3), .val (.int a4), .val (.int a5), .val (.ref r6)]
def lRd_read_54 (a4 : Int32) (a5 : Int32) (r6 : Nat) (r3 : Nat) : List Slot := [.val (.ref 30), .val (.ref 28), .val (.ref 14), .val (.ref r3), .val (.int a4), .val (.int a5), .val (.ref r6)]
def lRd_read_57 (a4 : Int32) (a5 : Int32) (r6 : Nat) (r3 : Nat) : List Slot := [.val (.ref 30), .val (.ref 28), .val (.ref 14), .val (.ref r3), .val (.int a4), .val (.int a5), .val (.ref r6)]
def lRd_read_64 (a4 : Int32) (a5 : Int32) (r6 : Nat) (r3 : Nat) : List Slot := [.val (.ref 30), .val (.ref 28), .val (.ref 14), .val (.ref r3), .val (.int a4), .val (.int a5), .val (.ref r6)]
def lRd_read_71 (a4 : Int32) (a5 : Int32) (r6 : Nat) (r3 : Nat) : List Slot := [.val (.ref 30), .val (.ref 28), .val (.ref 14), .val (.ref r3), .val (.int a4), .val (.int a5), .val (.ref r6)]
def lRd_read_91 (a4 : Int32) (a5 : Int32) (r6 : Nat) (r3 : Nat) : List Slot := [.val (.ref 30), .val (.ref 28), .val (.ref 14), .val (.ref r3), .val (.int a4), .val (.int a5), .val (.ref r6)]
def lRd_read_112 (a4 : Int32) (a5 : Int32) (r6 : Nat) (r3 : Nat) : List Slot := [.val (.ref 30), .val (.ref 28), .val (.ref 14), .val (.ref r3), .val (.int a4), .val (.int a5), .val (.ref r6)]
def lRd_read_138 (a4 : Int32) (a5 : Int32) (r6 : Nat) (r3 : Nat) : List Slot := [.val (.ref 30), .val (.ref 28), .val (.ref 14), .val (.ref r3), .val (.int a4), .val (.int a5), .val (.ref r6)]
def lRd_read_150 (a4 : Int32) (a5 : Int32) (r6 : Nat) (r3 : Nat) : List Slot := [.val (.ref 30), .val (.ref 28), .val (.ref 14), .val (.ref r3), .val (.int a4), .val (.int a5), .val (.ref r6)]
def lRd_read_153 (a4 : Int32) (a5 : Int32) (r6 : Nat) (r3 : Nat) : List Slot := [.val (.ref 30), .val (.ref 28), .val (.ref 14), .val (.ref r3), .val (.int a4), .val (.int a5), .val (.ref r6)]
def lRd_read_167 (a4 : Int32) (w5 : Slot) (w6 : Slot) (r3 : Nat) : List Slot := [.val (.ref 30), .val (.ref 28), .val (.ref 14), .val (.ref r3), .val (.int a4), w5, w6]
theorem bRd_read_0 {r3 : Nat} (hX : X.length = 13) (hr3 : kQu r3) (k1 : QW d mTok_split 0 (qen 4 [.ref 31, .ref 28]) [] (hpo X mem sw o e) (qcl d mRd_read 5 8 (lRd_read_8 r3) [] P)) : QW (d + 1) mRd_read 0 (qen 7 [.ref 30, .ref 28, .ref 14, .ref r3]) [] (hpo X mem sw o e) P := by
  show QW (d + 1) mRd_read 0 [.val (.ref 30), .val (.ref 28), .val (.ref 14), .val (.ref r3), .unset, .unset, .unset] [] (hpo X mem sw o e) P
  refine QW.aload_n dRd_read_0 rfl rfl ?_
  refine MW.getr (r' := 31) hX dRd_read_1 fRd_12 rfl rfl (by cases sw <;> rfl) ?_
  refine QW.aload_n dRd_read_4 rfl rfl ?_
  exact MW.calV (as := [.ref 28]) (rest := []) hX dRd_read_5 eTok_split lRd_18 iTok_split vTok_split rfl rfl rfl rfl rfl rfl (Nat.le_of_ble_eq_true rfl) rfl k1
theorem bRd_read_8 {r3 : Nat} (hX : X.length = 13) (hr3 : kQu r3) (k1 : QW d mRd_read 16 (lRd_read_16 0 .unset .unset r3) [] (hpo X (mup mem r3 0 0) sw o e) P) : QW d mRd_read 8 (lRd_read_8 r3) [] (hpo X mem sw o e) P := by
  show QW d mRd_read 8 [.val (.ref 30), .val (.ref 28), .val (.ref 14), .val (.ref r3), .unset, .unset, .unset] [] (hpo X mem sw o e) P
  refine QW.aload_n dRd_read_8 rfl rfl ?_
  refine QW.iconst (v := 0) dRd_read_9 (by decide) ?_
  refine MW.puti hX dRd_read_10 fRd_22 (kQu_0 hr3) rfl rfl ?_
  refine QW.iconst (v := 0) dRd_read_13 (by decide) ?_
  refine QW.istore (ls' := [.val (.ref 30), .val (.ref 28), .val (.ref 14), .val (.ref r3), .val (.int 0), .unset, .unset]) dRd_read_14 rfl ?_
  exact k1
theorem bRd_read_16 {r3 : Nat} {a4 : Int32} {w5 : Slot} {w6 : Slot} (hX : X.length = 13) (hr3 : kQu r3) (hw5 : qfr w5) (hw6 : qfr w6) (k1 : (3 ≤ a4) → QW d mTok_start 0 (qen 1 [.ref 31]) [] (hpo X mem sw o e) (qcl d mRd_read 164 167 (lRd_read_167 a4 w5 w6 r3) [] P)) (k2 : (¬ 3 ≤ a4) → QW d mTok_start 0 (qen 1 [.ref 31]) [] (hpo X mem sw o e) (qcl d mRd_read 26 29 (lRd_read_29 a4 w5 w6 r3) [] P)) : QW (d + 1) mRd_read 16 (lRd_read_16 a4 w5 w6 r3) [] (hpo X mem sw o e) P := by
  show QW (d + 1) mRd_read 16 [.val (.ref 30), .val (.ref 28), .val (.ref 14), .val (.ref r3), .val (.int a4), w5, w6] [] (hpo X mem sw o e) P
  refine QW.iload dRd_read_16 rfl ?_
  refine QW.iconst (v := 3) dRd_read_18 (by decide) ?_
  refine QW.icmp_ge (tgt := 160) dRd_read_19 (by decide) (fun z0 => ?_) (fun z0 => ?_)
  · refine QW.aload_n dRd_read_160 rfl rfl ?_
    refine MW.getr (r' := 31) hX dRd_read_161 fRd_12 rfl rfl (by cases sw <;> rfl) ?_
    exact MW.calV (as := []) (rest := []) hX dRd_read_164 eTok_start lRd_28 iTok_start vTok_start rfl rfl rfl rfl rfl rfl (Nat.le_of_ble_eq_true rfl) rfl (k1 z0)
  · refine QW.aload_n dRd_read_22 rfl rfl ?_
    refine MW.getr (r' := 31) hX dRd_read_23 fRd_12 rfl rfl (by cases sw <;> rfl) ?_
    exact MW.calV (as := []) (rest := []) hX dRd_read_26 eTok_start lRd_28 iTok_start vTok_start rfl rfl rfl rfl rfl rfl (Nat.le_of_ble_eq_true rfl) rfl (k2 z0)
theorem bRd_read_29 {r3 : Nat} {a4 : Int32} {w5 : Slot} {w6 : Slot} {s0 : Int32} (hX : X.length = 13) (hr3 : kQu r3) (hw5 : qfr w5) (hw6 : qfr w6) (h1 : inx a4 3) (k2 : QW d mRd_readBlock 0 (qen 3 [.ref 30, .ref (r3 + 3 + 7 * (Int32.toNatClampNeg a4)), .ref 14]) [] (hpo X mem sw o e) (qcl d mRd_read 44 47 (lRd_read_47 a4 s0 (r3 + 3 + 7 * (Int32.toNatClampNeg a4)) r3) [] P)) : QW (d + 1) mRd_read 29 (lRd_read_29 a4 w5 w6 r3) [.int s0] (hpo X mem sw o e) P := by
  show QW (d + 1) mRd_read 29 [.val (.ref 30), .val (.ref 28), .val (.ref 14), .val (.ref r3), .val (.int a4), w5, w6] [.int s0] (hpo X mem sw o e) P
  refine QW.istore (ls' := [.val (.ref 30), .val (.ref 28), .val (.ref 14), .val (.ref r3), .val (.int a4), .val (.int s0), w6]) dRd_read_29 (by rcases hw5 with z | ⟨_, z⟩ | ⟨_, z⟩ <;> subst z <;> rfl) ?_
  refine QW.aload_n dRd_read_31 rfl rfl ?_
  refine MW.getr (r' := (r3 + 1)) hX dRd_read_32 fRd_32 (kQu_0 hr3) rfl (kQu_s1 hr3 _) ?_
  refine QW.iload dRd_read_35 rfl ?_
  refine MW.aald (r' := (r3 + 3 + 7 * (Int32.toNatClampNeg a4))) hX dRd_read_37 (kQu_1 hr3) rfl (Nat.le_of_ble_eq_true rfl) h1.1 (el_bl h1.2) ((kQu_b hr3 _ h1.2).2 _) ?_
  refine QW.astore (ls' := [.val (.ref 30), .val (.ref 28), .val (.ref 14), .val (.ref r3), .val (.int a4), .val (.int s0), .val (.ref (r3 + 3 + 7 * (Int32.toNatClampNeg a4)))]) dRd_read_38 (by rcases hw6 with z | ⟨_, z⟩ | ⟨_, z⟩ <;> subst z <;> rfl) ?_
  refine QW.aload_n dRd_read_40 rfl rfl ?_
  refine QW.aload dRd_read_41 rfl ?_
  refine QW.aload_n dRd_read_43 rfl rfl ?_
  exact MW.calV (as := [.ref (r3 + 3 + 7 * (Int32.toNatClampNeg a4)), .ref 14]) (rest := []) hX dRd_read_44 eRd_readBlock lRd_36 iRd_readBlock vRd_readBlock rfl rfl rfl rfl rfl rfl (Nat.le_of_ble_eq_true rfl) rfl k2
theorem bRd_read_47 {r3 : Nat} {a4 : Int32} {a5 : Int32} {r6 : Nat} {s0 : Int32} (hX : X.length = 13) (hr3 : kQu r3) (hr6 : kBl r6) (k1 : (s0 = 0) → QW (d + 1) mRd_read 57 (lRd_read_57 a4 a5 r6 r3) [] (hpo X mem sw o e) P) (k2 : (¬ s0 = 0) → QW d mRd_isBehindBlock 0 (qen 1 [.ref 30]) [] (hpo X mem sw o e) (qcl d mRd_read 51 54 (lRd_read_54 a4 a5 r6 r3) [] P)) : QW (d + 1) mRd_read 47 (lRd_read_47 a4 a5 r6 r3) [.int s0] (hpo X mem sw o e) P := by
  show QW (d + 1) mRd_read 47 [.val (.ref 30), .val (.ref 28), .val (.ref 14), .val (.ref r3), .val (.int a4), .val (.int a5), .val (.ref r6)] [.int s0] (hpo X mem sw o e) P
  refine QW.if_eq (tgt := 57) dRd_read_47 (by decide) (fun z0 => ?_) (fun z0 => ?_)
  · exact (k1 z0)
  · refine QW.aload_n dRd_read_50 rfl rfl ?_
    exact MW.calV (as := []) (rest := []) hX dRd_read_51 eRd_isBehindBlock lRd_40 iRd_isBehindBlock vRd_isBehindBlock rfl rfl rfl rfl rfl rfl (Nat.le_of_ble_eq_true rfl) rfl (k2 z0)
theorem bRd_read_54 {r3 : Nat} {a4 : Int32} {a5 : Int32} {r6 : Nat} {s0 : Int32} (hX : X.length = 13) (hr3 : kQu r3) (hr6 : kBl r6) (k1 : (¬ s0 = 0) → QW d mBl_bind 0 (qen 4 [.ref r6, .ref 14]) [] (hpo X mem sw o e) (qcl d mRd_read 68 71 (lRd_read_71 a4 a5 r6 r3) [] P)) (k2 : (s0 = 0) → QW (d + 1) mRd_read 57 (lRd_read_57 a4 a5 r6 r3) [] (hpo X mem sw o e) P) : QW (d + 1) mRd_read 54 (lRd_read_54 a4 a5 r6 r3) [.int s0] (hpo X mem sw o e) P := by
  show QW (d + 1) mRd_read 54 [.val (.ref 30), .val (.ref 28), .val (.ref 14), .val (.ref r3), .val (.int a4), .val (.int a5), .val (.ref r6)] [.int s0] (hpo X mem sw o e) P
  refine QW.if_ne (tgt := 65) dRd_read_54 (by decide) (fun z0 => ?_) (fun z0 => ?_)
  · refine QW.aload dRd_read_65 rfl ?_
    refine QW.aload_n dRd_read_67 rfl rfl ?_
    exact MW.calV (as := [.ref 14]) (rest := []) hX dRd_read_68 eBl_bind lRd_44 iBl_bind vBl_bind rfl rfl (kBl_0 hr6) rfl rfl rfl (Nat.le_of_ble_eq_true rfl) rfl (k1 z0)
  · exact (k2 z0)
theorem bRd_read_57 {r3 : Nat} {a4 : Int32} {a5 : Int32} {r6 : Nat} (hX : X.length = 13) (hr3 : kQu r3) (hr6 : kBl r6) (k1 : QW d mTok_start 0 (qen 1 [.ref 31]) [] (hpo X mem sw o e) (qcl d mRd_read 61 64 (lRd_read_64 a4 a5 r6 r3) [] P)) : QW (d + 1) mRd_read 57 (lRd_read_57 a4 a5 r6 r3) [] (hpo X mem sw o e) P := by
  show QW (d + 1) mRd_read 57 [.val (.ref 30), .val (.ref 28), .val (.ref 14), .val (.ref r3), .val (.int a4), .val (.int a5), .val (.ref r6)] [] (hpo X mem sw o e) P
  refine QW.aload_n dRd_read_57 rfl rfl ?_
  refine MW.getr (r' := 31) hX dRd_read_58 fRd_12 rfl rfl (by cases sw <;> rfl) ?_
  exact MW.calV (as := []) (rest := []) hX dRd_read_61 eTok_start lRd_28 iTok_start vTok_start rfl rfl rfl rfl rfl rfl (Nat.le_of_ble_eq_true rfl) rfl k1
theorem bRd_read_64 {r3 : Nat} {a4 : Int32} {a5 : Int32} {r6 : Nat} {s0 : Int32} (hX : X.length = 13) (hr3 : kQu r3) (hr6 : kBl r6) (k1 : P (.inl (some (.int s0)), (hpo X mem sw o e))) : QW d mRd_read 64 (lRd_read_64 a4 a5 r6 r3) [.int s0] (hpo X mem sw o e) P := by
  show QW d mRd_read 64 [.val (.ref 30), .val (.ref 28), .val (.ref 14), .val (.ref r3), .val (.int a4), .val (.int a5), .val (.ref r6)] [.int s0] (hpo X mem sw o e) P
  exact QW.iret dRd_read_64 rfl rfl k1
theorem bRd_read_71 {r3 : Nat} {a4 : Int32} {a5 : Int32} {r6 : Nat} {s0 : Int32} (hX : X.length = 13) (hr3 : kQu r3) (hr6 : kBl r6) (k1 : (s0 = 0) → QW (d + 1) mRd_read 91 (lRd_read_91 a4 a5 r6 r3) [] (hpo X mem sw o e) P) (k2 : (¬ s0 = 0) → ((mem r6 1) = (mem (r3 + 3 + 7 * (Int32.toNatClampNeg 0)) 1)) → QW d mTok_is 0 (qen 2 [.ref 31, .int 0]) [] (hpo X (mup mem r3 0 ((mem r3 0) + 1)) sw o e) (qcl d mRd_read 109 112 (lRd_read_112 a4 a5 r6 r3) [] P)) (k3 : (¬ s0 = 0) → (¬ (mem r6 1) = (mem (r3 + 3 + 7 * (Int32.toNatClampNeg 0)) 1)) → QW (d + 1) mRd_read 91 (lRd_read_91 a4 a5 r6 r3) [] (hpo X mem sw o e) P) : QW (d + 1) mRd_read 71 (lRd_read_71 a4 a5 r6 r3) [.int s0] (hpo X mem sw o e) P := by
  show QW (d + 1) mRd_read 71 [.val (.ref 30), .val (.ref 28), .val (.ref 14), .val (.ref r3), .val (.int a4), .val (.int a5), .val (.ref r6)] [.int s0] (hpo X mem sw o e) P
  refine QW.if_eq (tgt := 91) dRd_read_71 (by decide) (fun z0 => ?_) (fun z0 => ?_)
  · exact (k1 z0)
  · refine QW.aload dRd_read_74 rfl ?_
    refine MW.geti hX dRd_read_76 fRd_50 (kBl_0 hr6) rfl ?_
    refine QW.aload_n dRd_read_79 rfl rfl ?_
    refine MW.getr (r' := (r3 + 1)) hX dRd_read_80 fRd_32 (kQu_0 hr3) rfl (kQu_s1 hr3 _) ?_
    refine QW.iconst (v := 0) dRd_read_83 (by decide) ?_
    refine MW.aald (r' := (r3 + 3 + 7 * (Int32.toNatClampNeg 0))) hX dRd_read_84 (kQu_1 hr3) rfl (Nat.le_of_ble_eq_true rfl) (show inx 0 3 from ⟨by decide, by decide⟩).1 (el_bl (show inx 0 3 from ⟨by decide, by decide⟩).2) ((kQu_b hr3 _ (show inx 0 3 from ⟨by decide, by decide⟩).2).2 _) ?_
    refine MW.geti hX dRd_read_85 fRd_50 (kBl_0 (kQu_b hr3 _ (show inx 0 3 from ⟨by decide, by decide⟩).2).1) rfl ?_
    refine QW.icmp_eq (tgt := 94) dRd_read_88 (by decide) (fun z1 => ?_) (fun z1 => ?_)
    · refine QW.aload_n dRd_read_94 rfl rfl ?_
      refine QW.dup dRd_read_95 rfl ?_
      refine MW.geti hX dRd_read_96 fRd_22 (kQu_0 hr3) rfl ?_
      refine QW.iconst (v := 1) dRd_read_99 (by decide) ?_
      refine QW.iadd dRd_read_100 ?_
      refine MW.puti hX dRd_read_101 fRd_22 (kQu_0 hr3) rfl rfl ?_
      refine QW.aload_n dRd_read_104 rfl rfl ?_
      refine MW.getr (r' := 31) hX dRd_read_105 fRd_12 rfl rfl (by cases sw <;> rfl) ?_
      refine QW.iconst (v := 0) dRd_read_108 (by decide) ?_
      exact MW.calV (as := [.int 0]) (rest := []) hX dRd_read_109 eTok_is lRd_53 iTok_is vTok_is rfl rfl rfl rfl rfl rfl (Nat.le_of_ble_eq_true rfl) rfl (k2 z0 z1)
    · exact (k3 z0 z1)
theorem bRd_read_91 {r3 : Nat} {a4 : Int32} {a5 : Int32} {r6 : Nat} (hX : X.length = 13) (hr3 : kQu r3) (hr6 : kBl r6) (k1 : P (.inl (some (.int a5)), (hpo X mem sw o e))) : QW d mRd_read 91 (lRd_read_91 a4 a5 r6 r3) [] (hpo X mem sw o e) P := by
  show QW d mRd_read 91 [.val (.ref 30), .val (.ref 28), .val (.ref 14), .val (.ref r3), .val (.int a4), .val (.int a5), .val (.ref r6)] [] (hpo X mem sw o e) P
  refine QW.iload dRd_read_91 rfl ?_
  exact QW.iret dRd_read_93 rfl rfl k1
theorem bRd_read_112 {r3 : Nat} {a4 : Int32} {a5 : Int32} {r6 : Nat} {s0 : Int32} (hX : X.length = 13) (hr3 : kQu r3) (hr6 : kBl r6) (k1 : (s0 = 0) → (3 ≤ (a4 + 1)) → QW (d + 1) mRd_read 16 (lRd_read_16 (a4 + 1) (.val (.int a5)) (.val (.ref r6)) r3) [] (hpo X mem sw o e) P) (k2 : (s0 = 0) → (¬ 3 ≤ (a4 + 1)) → QW d mTok_kind 0 (qen 1 [.ref 31]) [] (hpo X mem sw o e) (qcl d mRd_read 135 138 (lRd_read_138 a4 a5 r6 r3) [.int a4, .ref (r3 + 2)] P)) (k3 : (¬ s0 = 0) → P (.inl (some (.int (-1))), (hpo X mem sw o e))) : QW (d + 1) mRd_read 112 (lRd_read_112 a4 a5 r6 r3) [.int s0] (hpo X mem sw o e) P := by
  show QW (d + 1) mRd_read 112 [.val (.ref 30), .val (.ref 28), .val (.ref 14), .val (.ref r3), .val (.int a4), .val (.int a5), .val (.ref r6)] [.int s0] (hpo X mem sw o e) P
  refine QW.if_eq (tgt := 117) dRd_read_112 (by decide) (fun z0 => ?_) (fun z0 => ?_)
  · refine QW.iload dRd_read_117 rfl ?_
    refine QW.iconst (v := 1) dRd_read_119 (by decide) ?_
    refine QW.iadd dRd_read_120 ?_
    refine QW.iconst (v := 3) dRd_read_121 (by decide) ?_
    refine QW.icmp_ge (tgt := 154) dRd_read_122 (by decide) (fun z1 => ?_) (fun z1 => ?_)
    · refine MW.iinc (c := 1) (ls' := [.val (.ref 30), .val (.ref 28), .val (.ref 14), .val (.ref r3), .val (.int (a4 + 1)), .val (.int a5), .val (.ref r6)]) dRd_read_154 (by decide) rfl rfl ?_
      refine QW.goto (tgt := 16) dRd_read_157 (by decide) ?_
      exact (k1 z0 z1)
    · refine QW.aload_n dRd_read_125 rfl rfl ?_
      refine MW.getr (r' := (r3 + 2)) hX dRd_read_126 fRd_57 (kQu_0 hr3) rfl (kQu_s2 hr3 _) ?_
      refine QW.iload dRd_read_129 rfl ?_
      refine QW.aload_n dRd_read_131 rfl rfl ?_
      refine MW.getr (r' := 31) hX dRd_read_132 fRd_12 rfl rfl (by cases sw <;> rfl) ?_
      exact MW.calV (as := []) (rest := [.int a4, .ref (r3 + 2)]) hX dRd_read_135 eTok_kind lRd_61 iTok_kind vTok_kind rfl rfl rfl rfl rfl rfl (Nat.le_of_ble_eq_true rfl) rfl (k2 z0 z1)
  · refine QW.iconst (v := (-1)) dRd_read_115 (by decide) ?_
    exact QW.iret dRd_read_116 rfl rfl (k3 z0)
theorem bRd_read_138 {r3 : Nat} {a4 : Int32} {a5 : Int32} {r6 : Nat} {s2 : Int32} {s1 : Int32} (hX : X.length = 13) (hr3 : kQu r3) (hr6 : kBl r6) (h1 : inx s1 2) (k2 : QW d mTok_kind 0 (qen 1 [.ref 31]) [] (hpo X (mup mem (r3 + 2) (Int32.toNatClampNeg s1) s2) sw o e) (qcl d mRd_read 147 150 (lRd_read_150 a4 a5 r6 r3) [.ref 31] P)) : QW (d + 1) mRd_read 138 (lRd_read_138 a4 a5 r6 r3) [.int s2, .int s1, .ref (r3 + 2)] (hpo X mem sw o e) P := by
  show QW (d + 1) mRd_read 138 [.val (.ref 30), .val (.ref 28), .val (.ref 14), .val (.ref r3), .val (.int a4), .val (.int a5), .val (.ref r6)] [.int s2, .int s1, .ref (r3 + 2)] (hpo X mem sw o e) P
  refine MW.iast hX dRd_read_138 (kQu_2 hr3) h1.1 (rep_get h1.2) ?_
  refine QW.aload_n dRd_read_139 rfl rfl ?_
  refine MW.getr (r' := 31) hX dRd_read_140 fRd_12 rfl rfl (by cases sw <;> rfl) ?_
  refine QW.aload_n dRd_read_143 rfl rfl ?_
  refine MW.getr (r' := 31) hX dRd_read_144 fRd_12 rfl rfl (by cases sw <;> rfl) ?_
  exact MW.calV (as := []) (rest := [.ref 31]) hX dRd_read_147 eTok_kind lRd_61 iTok_kind vTok_kind rfl rfl rfl rfl rfl rfl (Nat.le_of_ble_eq_true rfl) rfl k2
theorem bRd_read_150 {r3 : Nat} {a4 : Int32} {a5 : Int32} {r6 : Nat} {s1 : Int32} (hX : X.length = 13) (hr3 : kQu r3) (hr6 : kBl r6) (k1 : QW d mTok_take 0 (qen 2 [.ref 31, .int s1]) [] (hpo X mem sw o e) (qcl d mRd_read 150 153 (lRd_read_153 a4 a5 r6 r3) [] P)) : QW (d + 1) mRd_read 150 (lRd_read_150 a4 a5 r6 r3) [.int s1, .ref 31] (hpo X mem sw o e) P := by
  show QW (d + 1) mRd_read 150 [.val (.ref 30), .val (.ref 28), .val (.ref 14), .val (.ref r3), .val (.int a4), .val (.int a5), .val (.ref r6)] [.int s1, .ref 31] (hpo X mem sw o e) P
  exact MW.calV (as := [.int s1]) (rest := []) hX dRd_read_150 eTok_take lRd_64 iTok_take vTok_take rfl rfl rfl rfl rfl rfl (Nat.le_of_ble_eq_true rfl) rfl k1
theorem bRd_read_153 {r3 : Nat} {a4 : Int32} {a5 : Int32} {r6 : Nat} {s0 : Int32} (hX : X.length = 13) (hr3 : kQu r3) (hr6 : kBl r6) (k1 : QW d mRd_read 16 (lRd_read_16 (a4 + 1) (.val (.int a5)) (.val (.ref r6)) r3) [] (hpo X mem sw o e) P) : QW d mRd_read 153 (lRd_read_153 a4 a5 r6 r3) [.int s0] (hpo X mem sw o e) P := by
  show QW d mRd_read 153 [.val (.ref 30), .val (.ref 28), .val (.ref 14), .val (.ref r3), .val (.int a4), .val (.int a5), .val (.ref r6)] [.int s0] (hpo X mem sw o e) P
  refine QW.pop dRd_read_153 rfl ?_
  refine MW.iinc (c := 1) (ls' := [.val (.ref 30), .val (.ref 28), .val (.ref 14), .val (.ref r3), .val (.int (a4 + 1)), .val (.int a5), .val (.ref r6)]) dRd_read_154 (by decide) rfl rfl ?_
  refine QW.goto (tgt := 16) dRd_read_157 (by decide) ?_
  exact k1
theorem bRd_read_167 {r3 : Nat} {a4 : Int32} {w5 : Slot} {w6 : Slot} {s0 : Int32} (hX : X.length = 13) (hr3 : kQu r3) (hw5 : qfr w5) (hw6 : qfr w6) (k1 : P (.inl (some (.int s0)), (hpo X mem sw o e))) : QW d mRd_read 167 (lRd_read_167 a4 w5 w6 r3) [.int s0] (hpo X mem sw o e) P := by
  show QW d mRd_read 167 [.val (.ref 30), .val (.ref 28), .val (.ref 14), .val (.ref r3), .val (.int a4), w5, w6] [.int s0] (hpo X mem sw o e) P
  exact QW.iret dRd_read_167 rfl rfl k1
theorem dRd_isBehindBlock_0 : decode mRd_isBehindBlock.2.1 0 = .ok (.aload_n 0, 1) := by decide +kernel
theorem dRd_isBehindBlock_1 : decode mRd_isBehindBlock.2.1 1 = .ok (.getfield 12, 3) := by decide +kernel
theorem dRd_isBehindBlock_4 : decode mRd_isBehindBlock.2.1 4 = .ok (.iconst 0, 1) := by decide +kernel
theorem dRd_isBehindBlock_5 : decode mRd_isBehindBlock.2.1 5 = .ok (.invokevirtual 53, 3) := by decide +kernel
theorem dRd_isBehindBlock_8 : decode mRd_isBehindBlock.2.1 8 = .ok (.ifCond .ne 39, 3) := by decide +kernel
theorem dRd_isBehindBlock_11 : decode mRd_isBehindBlock.2.1 11 = .ok (.aload_n 0, 1) := by decide +kernel
theorem dRd_isBehindBlock_12 : decode mRd_isBehindBlock.2.1 12 = .ok (.getfield 12, 3) := by decide +kernel
theorem dRd_isBehindBlock_15 : decode mRd_isBehindBlock.2.1 15 = .ok (.bipush 43, 2) := by decide +kernel
theorem dRd_isBehindBlock_17 : decode mRd_isBehindBlock.2.1 17 = .ok (.invokevirtual 53, 3) := by decide +kernel
theorem dRd_isBehindBlock_20 : decode mRd_isBehindBlock.2.1 20 = .ok (.ifCond .ne 27, 3) := by decide +kernel
theorem dRd_isBehindBlock_23 : decode mRd_isBehindBlock.2.1 23 = .ok (.aload_n 0, 1) := by decide +kernel
theorem dRd_isBehindBlock_24 : decode mRd_isBehindBlock.2.1 24 = .ok (.getfield 12, 3) := by decide +kernel
theorem dRd_isBehindBlock_27 : decode mRd_isBehindBlock.2.1 27 = .ok (.bipush 45, 2) := by decide +kernel
theorem dRd_isBehindBlock_29 : decode mRd_isBehindBlock.2.1 29 = .ok (.invokevirtual 53, 3) := by decide +kernel
theorem dRd_isBehindBlock_32 : decode mRd_isBehindBlock.2.1 32 = .ok (.ifCond .ne 15, 3) := by decide +kernel
theorem dRd_isBehindBlock_35 : decode mRd_isBehindBlock.2.1 35 = .ok (.aload_n 0, 1) := by decide +kernel
theorem dRd_isBehindBlock_36 : decode mRd_isBehindBlock.2.1 36 = .ok (.getfield 12, 3) := by decide +kernel
theorem dRd_isBehindBlock_39 : decode mRd_isBehindBlock.2.1 39 = .ok (.bipush 94, 2) := by decide +kernel
theorem dRd_isBehindBlock_41 : decode mRd_isBehindBlock.2.1 41 = .ok (.invokevirtual 53, 3) := by decide +kernel
theorem dRd_isBehindBlock_44 : decode mRd_isBehindBlock.2.1 44 = .ok (.ifCond .eq 7, 3) := by decide +kernel
theorem dRd_isBehindBlock_47 : decode mRd_isBehindBlock.2.1 47 = .ok (.iconst 1, 1) := by decide +kernel
theorem dRd_isBehindBlock_48 : decode mRd_isBehindBlock.2.1 48 = .ok (.goto 4, 3) := by decide +kernel
theorem dRd_isBehindBlock_51 : decode mRd_isBehindBlock.2.1 51 = .ok (.iconst 0, 1) := by decide +kernel
theorem dRd_isBehindBlock_52 : decode mRd_isBehindBlock.2.1 52 = .ok (.ireturn, 1) := by decide +kernel
def lRd_isBehindBlock_8  : List Slot := [.val (.ref 30)]
def lRd_isBehindBlock_20  : List Slot := [.val (.ref 30)]
def lRd_isBehindBlock_32  : List Slot := [.val (.ref 30)]
def lRd_isBehindBlock_44  : List Slot := [.val (.ref 30)]
def lRd_isBehindBlock_47  : List Slot := [.val (.ref 30)]
theorem bRd_isBehindBlock_0 (hX : X.length = 13) (k1 : QW d mTok_is 0 (qen 2 [.ref 31, .int 0]) [] (hpo X mem sw o e) (qcl d mRd_isBehindBlock 5 8 lRd_isBehindBlock_8 [] P)) : QW (d + 1) mRd_isBehindBlock 0 (qen 1 [.ref 30]) [] (hpo X mem sw o e) P := by
  show QW (d + 1) mRd_isBehindBlock 0 [.val (.ref 30)] [] (hpo X mem sw o e) P
  refine QW.aload_n dRd_isBehindBlock_0 rfl rfl ?_
  refine MW.getr (r' := 31) hX dRd_isBehindBlock_1 fRd_12 rfl rfl (by cases sw <;> rfl) ?_
  refine QW.iconst (v := 0) dRd_isBehindBlock_4 (by decide) ?_
  exact MW.calV (as := [.int 0]) (rest := []) hX dRd_isBehindBlock_5 eTok_is lRd_53 iTok_is vTok_is rfl rfl rfl rfl rfl rfl (Nat.le_of_ble_eq_true rfl) rfl k1
theorem bRd_isBehindBlock_8 {s0 : Int32} (hX : X.length = 13) (k1 : (¬ s0 = 0) → QW (d + 1) mRd_isBehindBlock 47 lRd_isBehindBlock_47 [] (hpo X mem sw o e) P) (k2 : (s0 = 0) → QW d mTok_is 0 (qen 2 [.ref 31, .int 43]) [] (hpo X mem sw o e) (qcl d mRd_isBehindBlock 17 20 lRd_isBehindBlock_20 [] P)) : QW (d + 1) mRd_isBehindBlock 8 (lRd_isBehindBlock_8) [.int s0] (hpo X mem sw o e) P := by
  show QW (d + 1) mRd_isBehindBlock 8 [.val (.ref 30)] [.int s0] (hpo X mem sw o e) P
  refine QW.if_ne (tgt := 47) dRd_isBehindBlock_8 (by decide) (fun z0 => ?_) (fun z0 => ?_)
  · exact (k1 z0)
  · refine QW.aload_n dRd_isBehindBlock_11 rfl rfl ?_
    refine MW.getr (r' := 31) hX dRd_isBehindBlock_12 fRd_12 rfl rfl (by cases sw <;> rfl) ?_
    refine QW.bipush (v := 43) dRd_isBehindBlock_15 (by decide) ?_
    exact MW.calV (as := [.int 43]) (rest := []) hX dRd_isBehindBlock_17 eTok_is lRd_53 iTok_is vTok_is rfl rfl rfl rfl rfl rfl (Nat.le_of_ble_eq_true rfl) rfl (k2 z0)
theorem bRd_isBehindBlock_20 {s0 : Int32} (hX : X.length = 13) (k1 : (¬ s0 = 0) → QW (d + 1) mRd_isBehindBlock 47 lRd_isBehindBlock_47 [] (hpo X mem sw o e) P) (k2 : (s0 = 0) → QW d mTok_is 0 (qen 2 [.ref 31, .int 45]) [] (hpo X mem sw o e) (qcl d mRd_isBehindBlock 29 32 lRd_isBehindBlock_32 [] P)) : QW (d + 1) mRd_isBehindBlock 20 (lRd_isBehindBlock_20) [.int s0] (hpo X mem sw o e) P := by
  show QW (d + 1) mRd_isBehindBlock 20 [.val (.ref 30)] [.int s0] (hpo X mem sw o e) P
  refine QW.if_ne (tgt := 47) dRd_isBehindBlock_20 (by decide) (fun z0 => ?_) (fun z0 => ?_)
  · exact (k1 z0)
  · refine QW.aload_n dRd_isBehindBlock_23 rfl rfl ?_
    refine MW.getr (r' := 31) hX dRd_isBehindBlock_24 fRd_12 rfl rfl (by cases sw <;> rfl) ?_
    refine QW.bipush (v := 45) dRd_isBehindBlock_27 (by decide) ?_
    exact MW.calV (as := [.int 45]) (rest := []) hX dRd_isBehindBlock_29 eTok_is lRd_53 iTok_is vTok_is rfl rfl rfl rfl rfl rfl (Nat.le_of_ble_eq_true rfl) rfl (k2 z0)
theorem bRd_isBehindBlock_32 {s0 : Int32} (hX : X.length = 13) (k1 : (¬ s0 = 0) → QW (d + 1) mRd_isBehindBlock 47 lRd_isBehindBlock_47 [] (hpo X mem sw o e) P) (k2 : (s0 = 0) → QW d mTok_is 0 (qen 2 [.ref 31, .int 94]) [] (hpo X mem sw o e) (qcl d mRd_isBehindBlock 41 44 lRd_isBehindBlock_44 [] P)) : QW (d + 1) mRd_isBehindBlock 32 (lRd_isBehindBlock_32) [.int s0] (hpo X mem sw o e) P := by
  show QW (d + 1) mRd_isBehindBlock 32 [.val (.ref 30)] [.int s0] (hpo X mem sw o e) P
  refine QW.if_ne (tgt := 47) dRd_isBehindBlock_32 (by decide) (fun z0 => ?_) (fun z0 => ?_)
  · exact (k1 z0)
  · refine QW.aload_n dRd_isBehindBlock_35 rfl rfl ?_
    refine MW.getr (r' := 31) hX dRd_isBehindBlock_36 fRd_12 rfl rfl (by cases sw <;> rfl) ?_
    refine QW.bipush (v := 94) dRd_isBehindBlock_39 (by decide) ?_
    exact MW.calV (as := [.int 94]) (rest := []) hX dRd_isBehindBlock_41 eTok_is lRd_53 iTok_is vTok_is rfl rfl rfl rfl rfl rfl (Nat.le_of_ble_eq_true rfl) rfl (k2 z0)
theorem bRd_isBehindBlock_44 {s0 : Int32} (hX : X.length = 13) (k1 : (s0 = 0) → P (.inl (some (.int 0)), (hpo X mem sw o e))) (k2 : (¬ s0 = 0) → QW d mRd_isBehindBlock 47 lRd_isBehindBlock_47 [] (hpo X mem sw o e) P) : QW d mRd_isBehindBlock 44 (lRd_isBehindBlock_44) [.int s0] (hpo X mem sw o e) P := by
  show QW d mRd_isBehindBlock 44 [.val (.ref 30)] [.int s0] (hpo X mem sw o e) P
  refine QW.if_eq (tgt := 51) dRd_isBehindBlock_44 (by decide) (fun z0 => ?_) (fun z0 => ?_)
  · refine QW.iconst (v := 0) dRd_isBehindBlock_51 (by decide) ?_
    exact QW.iret dRd_isBehindBlock_52 rfl rfl (k1 z0)
  · exact (k2 z0)
theorem bRd_isBehindBlock_47 (hX : X.length = 13) (k1 : P (.inl (some (.int 1)), (hpo X mem sw o e))) : QW d mRd_isBehindBlock 47 (lRd_isBehindBlock_47) [] (hpo X mem sw o e) P := by
  show QW d mRd_isBehindBlock 47 [.val (.ref 30)] [] (hpo X mem sw o e) P
  refine QW.iconst (v := 1) dRd_isBehindBlock_47 (by decide) ?_
  refine QW.goto (tgt := 52) dRd_isBehindBlock_48 (by decide) ?_
  exact QW.iret dRd_isBehindBlock_52 rfl rfl k1
theorem dRd_readBlock_0 : decode mRd_readBlock.2.1 0 = .ok (.aload_n 1, 1) := by decide +kernel
theorem dRd_readBlock_1 : decode mRd_readBlock.2.1 1 = .ok (.invokevirtual 67, 3) := by decide +kernel
theorem dRd_readBlock_4 : decode mRd_readBlock.2.1 4 = .ok (.aload_n 1, 1) := by decide +kernel
theorem dRd_readBlock_5 : decode mRd_readBlock.2.1 5 = .ok (.aload_n 0, 1) := by decide +kernel
theorem dRd_readBlock_6 : decode mRd_readBlock.2.1 6 = .ok (.getfield 12, 3) := by decide +kernel
theorem dRd_readBlock_9 : decode mRd_readBlock.2.1 9 = .ok (.bipush 6, 2) := by decide +kernel
theorem dRd_readBlock_11 : decode mRd_readBlock.2.1 11 = .ok (.invokevirtual 64, 3) := by decide +kernel
theorem dRd_readBlock_14 : decode mRd_readBlock.2.1 14 = .ok (.putfield 70, 3) := by decide +kernel
theorem dRd_readBlock_17 : decode mRd_readBlock.2.1 17 = .ok (.aload_n 0, 1) := by decide +kernel
theorem dRd_readBlock_18 : decode mRd_readBlock.2.1 18 = .ok (.getfield 12, 3) := by decide +kernel
theorem dRd_readBlock_21 : decode mRd_readBlock.2.1 21 = .ok (.bipush 7, 2) := by decide +kernel
theorem dRd_readBlock_23 : decode mRd_readBlock.2.1 23 = .ok (.invokevirtual 64, 3) := by decide +kernel
theorem dRd_readBlock_26 : decode mRd_readBlock.2.1 26 = .ok (.ifCond .eq 56, 3) := by decide +kernel
theorem dRd_readBlock_29 : decode mRd_readBlock.2.1 29 = .ok (.aload_n 0, 1) := by decide +kernel
theorem dRd_readBlock_30 : decode mRd_readBlock.2.1 30 = .ok (.aload_n 1, 1) := by decide +kernel
theorem dRd_readBlock_31 : decode mRd_readBlock.2.1 31 = .ok (.invokevirtual 74, 3) := by decide +kernel
theorem dRd_readBlock_34 : decode mRd_readBlock.2.1 34 = .ok (.ifCond .eq 48, 3) := by decide +kernel
theorem dRd_readBlock_37 : decode mRd_readBlock.2.1 37 = .ok (.aload_n 0, 1) := by decide +kernel
theorem dRd_readBlock_38 : decode mRd_readBlock.2.1 38 = .ok (.getfield 12, 3) := by decide +kernel
theorem dRd_readBlock_41 : decode mRd_readBlock.2.1 41 = .ok (.bipush 8, 2) := by decide +kernel
theorem dRd_readBlock_43 : decode mRd_readBlock.2.1 43 = .ok (.invokevirtual 64, 3) := by decide +kernel
theorem dRd_readBlock_46 : decode mRd_readBlock.2.1 46 = .ok (.ifCond .eq 36, 3) := by decide +kernel
theorem dRd_readBlock_49 : decode mRd_readBlock.2.1 49 = .ok (.aload_n 0, 1) := by decide +kernel
theorem dRd_readBlock_50 : decode mRd_readBlock.2.1 50 = .ok (.aload_n 1, 1) := by decide +kernel
theorem dRd_readBlock_51 : decode mRd_readBlock.2.1 51 = .ok (.aload_n 2, 1) := by decide +kernel
theorem dRd_readBlock_52 : decode mRd_readBlock.2.1 52 = .ok (.invokevirtual 78, 3) := by decide +kernel
theorem dRd_readBlock_55 : decode mRd_readBlock.2.1 55 = .ok (.ifCond .eq 27, 3) := by decide +kernel
theorem dRd_readBlock_58 : decode mRd_readBlock.2.1 58 = .ok (.aload_n 0, 1) := by decide +kernel
theorem dRd_readBlock_59 : decode mRd_readBlock.2.1 59 = .ok (.getfield 12, 3) := by decide +kernel
theorem dRd_readBlock_62 : decode mRd_readBlock.2.1 62 = .ok (.bipush 9, 2) := by decide +kernel
theorem dRd_readBlock_64 : decode mRd_readBlock.2.1 64 = .ok (.invokevirtual 64, 3) := by decide +kernel
theorem dRd_readBlock_67 : decode mRd_readBlock.2.1 67 = .ok (.ifCond .eq 11, 3) := by decide +kernel
theorem dRd_readBlock_70 : decode mRd_readBlock.2.1 70 = .ok (.aload_n 0, 1) := by decide +kernel
theorem dRd_readBlock_71 : decode mRd_readBlock.2.1 71 = .ok (.aload_n 1, 1) := by decide +kernel
theorem dRd_readBlock_72 : decode mRd_readBlock.2.1 72 = .ok (.invokevirtual 81, 3) := by decide +kernel
theorem dRd_readBlock_75 : decode mRd_readBlock.2.1 75 = .ok (.ifCond .eq 7, 3) := by decide +kernel
theorem dRd_readBlock_78 : decode mRd_readBlock.2.1 78 = .ok (.iconst 1, 1) := by decide +kernel
theorem dRd_readBlock_79 : decode mRd_readBlock.2.1 79 = .ok (.goto 4, 3) := by decide +kernel
theorem dRd_readBlock_82 : decode mRd_readBlock.2.1 82 = .ok (.iconst 0, 1) := by decide +kernel
theorem dRd_readBlock_83 : decode mRd_readBlock.2.1 83 = .ok (.ireturn, 1) := by decide +kernel
def lRd_readBlock_4 (r1 : Nat) : List Slot := [.val (.ref 30), .val (.ref r1), .val (.ref 14)]
def lRd_readBlock_14 (r1 : Nat) : List Slot := [.val (.ref 30), .val (.ref r1), .val (.ref 14)]
def lRd_readBlock_26 (r1 : Nat) : List Slot := [.val (.ref 30), .val (.ref r1), .val (.ref 14)]
def lRd_readBlock_34 (r1 : Nat) : List Slot := [.val (.ref 30), .val (.ref r1), .val (.ref 14)]
def lRd_readBlock_46 (r1 : Nat) : List Slot := [.val (.ref 30), .val (.ref r1), .val (.ref 14)]
def lRd_readBlock_55 (r1 : Nat) : List Slot := [.val (.ref 30), .val (.ref r1), .val (.ref 14)]
def lRd_readBlock_67 (r1 : Nat) : List Slot := [.val (.ref 30), .val (.ref r1), .val (.ref 14)]
def lRd_readBlock_75 (r1 : Nat) : List Slot := [.val (.ref 30), .val (.ref r1), .val (.ref 14)]
def lRd_readBlock_78 (r1 : Nat) : List Slot := [.val (.ref 30), .val (.ref r1), .val (.ref 14)]
theorem bRd_readBlock_0 {r1 : Nat} (hX : X.length = 13) (hr1 : kBl r1) (k1 : QW d mBl_clear 0 (qen 1 [.ref r1]) [] (hpo X mem sw o e) (qcl d mRd_readBlock 1 4 (lRd_readBlock_4 r1) [] P)) : QW (d + 1) mRd_readBlock 0 (qen 3 [.ref 30, .ref r1, .ref 14]) [] (hpo X mem sw o e) P := by
  show QW (d + 1) mRd_readBlock 0 [.val (.ref 30), .val (.ref r1), .val (.ref 14)] [] (hpo X mem sw o e) P
  refine QW.aload_n dRd_readBlock_0 rfl rfl ?_
  exact MW.calV (as := []) (rest := []) hX dRd_readBlock_1 eBl_clear lRd_67 iBl_clear vBl_clear rfl rfl (kBl_0 hr1) rfl rfl rfl (Nat.le_of_ble_eq_true rfl) rfl k1
theorem bRd_readBlock_4 {r1 : Nat} (hX : X.length = 13) (hr1 : kBl r1) (k1 : QW d mTok_take 0 (qen 2 [.ref 31, .int 6]) [] (hpo X mem sw o e) (qcl d mRd_readBlock 11 14 (lRd_readBlock_14 r1) [.ref r1] P)) : QW (d + 1) mRd_readBlock 4 (lRd_readBlock_4 r1) [] (hpo X mem sw o e) P := by
  show QW (d + 1) mRd_readBlock 4 [.val (.ref 30), .val (.ref r1), .val (.ref 14)] [] (hpo X mem sw o e) P
  refine QW.aload_n dRd_readBlock_4 rfl rfl ?_
  refine QW.aload_n dRd_readBlock_5 rfl rfl ?_
  refine MW.getr (r' := 31) hX dRd_readBlock_6 fRd_12 rfl rfl (by cases sw <;> rfl) ?_
  refine QW.bipush (v := 6) dRd_readBlock_9 (by decide) ?_
  exact MW.calV (as := [.int 6]) (rest := [.ref r1]) hX dRd_readBlock_11 eTok_take lRd_64 iTok_take vTok_take rfl rfl rfl rfl rfl rfl (Nat.le_of_ble_eq_true rfl) rfl k1
theorem bRd_readBlock_14 {r1 : Nat} {s1 : Int32} (hX : X.length = 13) (hr1 : kBl r1) (h1 : narrow .boolean (.int s1) = .int s1) (h2 : fits .boolean (.int s1) = true) (k3 : QW d mTok_take 0 (qen 2 [.ref 31, .int 7]) [] (hpo X (mup mem r1 0 s1) sw o e) (qcl d mRd_readBlock 23 26 (lRd_readBlock_26 r1) [] P)) : QW (d + 1) mRd_readBlock 14 (lRd_readBlock_14 r1) [.int s1, .ref r1] (hpo X mem sw o e) P := by
  show QW (d + 1) mRd_readBlock 14 [.val (.ref 30), .val (.ref r1), .val (.ref 14)] [.int s1, .ref r1] (hpo X mem sw o e) P
  refine MW.putz hX dRd_readBlock_14 fRd_70 (kBl_0 hr1) rfl rfl h1 h2 ?_
  refine QW.aload_n dRd_readBlock_17 rfl rfl ?_
  refine MW.getr (r' := 31) hX dRd_readBlock_18 fRd_12 rfl rfl (by cases sw <;> rfl) ?_
  refine QW.bipush (v := 7) dRd_readBlock_21 (by decide) ?_
  exact MW.calV (as := [.int 7]) (rest := []) hX dRd_readBlock_23 eTok_take lRd_64 iTok_take vTok_take rfl rfl rfl rfl rfl rfl (Nat.le_of_ble_eq_true rfl) rfl k3
theorem bRd_readBlock_26 {r1 : Nat} {s0 : Int32} (hX : X.length = 13) (hr1 : kBl r1) (k1 : (s0 = 0) → P (.inl (some (.int 0)), (hpo X mem sw o e))) (k2 : (¬ s0 = 0) → QW d mRd_readOutputs 0 (qen 4 [.ref 30, .ref r1]) [] (hpo X mem sw o e) (qcl d mRd_readBlock 31 34 (lRd_readBlock_34 r1) [] P)) : QW (d + 1) mRd_readBlock 26 (lRd_readBlock_26 r1) [.int s0] (hpo X mem sw o e) P := by
  show QW (d + 1) mRd_readBlock 26 [.val (.ref 30), .val (.ref r1), .val (.ref 14)] [.int s0] (hpo X mem sw o e) P
  refine QW.if_eq (tgt := 82) dRd_readBlock_26 (by decide) (fun z0 => ?_) (fun z0 => ?_)
  · refine QW.iconst (v := 0) dRd_readBlock_82 (by decide) ?_
    exact QW.iret dRd_readBlock_83 rfl rfl (k1 z0)
  · refine QW.aload_n dRd_readBlock_29 rfl rfl ?_
    refine QW.aload_n dRd_readBlock_30 rfl rfl ?_
    exact MW.calV (as := [.ref r1]) (rest := []) hX dRd_readBlock_31 eRd_readOutputs lRd_74 iRd_readOutputs vRd_readOutputs rfl rfl rfl rfl rfl rfl (Nat.le_of_ble_eq_true rfl) rfl (k2 z0)
theorem bRd_readBlock_34 {r1 : Nat} {s0 : Int32} (hX : X.length = 13) (hr1 : kBl r1) (k1 : (s0 = 0) → P (.inl (some (.int 0)), (hpo X mem sw o e))) (k2 : (¬ s0 = 0) → QW d mTok_take 0 (qen 2 [.ref 31, .int 8]) [] (hpo X mem sw o e) (qcl d mRd_readBlock 43 46 (lRd_readBlock_46 r1) [] P)) : QW (d + 1) mRd_readBlock 34 (lRd_readBlock_34 r1) [.int s0] (hpo X mem sw o e) P := by
  show QW (d + 1) mRd_readBlock 34 [.val (.ref 30), .val (.ref r1), .val (.ref 14)] [.int s0] (hpo X mem sw o e) P
  refine QW.if_eq (tgt := 82) dRd_readBlock_34 (by decide) (fun z0 => ?_) (fun z0 => ?_)
  · refine QW.iconst (v := 0) dRd_readBlock_82 (by decide) ?_
    exact QW.iret dRd_readBlock_83 rfl rfl (k1 z0)
  · refine QW.aload_n dRd_readBlock_37 rfl rfl ?_
    refine MW.getr (r' := 31) hX dRd_readBlock_38 fRd_12 rfl rfl (by cases sw <;> rfl) ?_
    refine QW.bipush (v := 8) dRd_readBlock_41 (by decide) ?_
    exact MW.calV (as := [.int 8]) (rest := []) hX dRd_readBlock_43 eTok_take lRd_64 iTok_take vTok_take rfl rfl rfl rfl rfl rfl (Nat.le_of_ble_eq_true rfl) rfl (k2 z0)
theorem bRd_readBlock_46 {r1 : Nat} {s0 : Int32} (hX : X.length = 13) (hr1 : kBl r1) (k1 : (s0 = 0) → P (.inl (some (.int 0)), (hpo X mem sw o e))) (k2 : (¬ s0 = 0) → QW d mRd_readSources 0 (qen 7 [.ref 30, .ref r1, .ref 14]) [] (hpo X mem sw o e) (qcl d mRd_readBlock 52 55 (lRd_readBlock_55 r1) [] P)) : QW (d + 1) mRd_readBlock 46 (lRd_readBlock_46 r1) [.int s0] (hpo X mem sw o e) P := by
  show QW (d + 1) mRd_readBlock 46 [.val (.ref 30), .val (.ref r1), .val (.ref 14)] [.int s0] (hpo X mem sw o e) P
  refine QW.if_eq (tgt := 82) dRd_readBlock_46 (by decide) (fun z0 => ?_) (fun z0 => ?_)
  · refine QW.iconst (v := 0) dRd_readBlock_82 (by decide) ?_
    exact QW.iret dRd_readBlock_83 rfl rfl (k1 z0)
  · refine QW.aload_n dRd_readBlock_49 rfl rfl ?_
    refine QW.aload_n dRd_readBlock_50 rfl rfl ?_
    refine QW.aload_n dRd_readBlock_51 rfl rfl ?_
    exact MW.calV (as := [.ref r1, .ref 14]) (rest := []) hX dRd_readBlock_52 eRd_readSources lRd_78 iRd_readSources vRd_readSources rfl rfl rfl rfl rfl rfl (Nat.le_of_ble_eq_true rfl) rfl (k2 z0)
theorem bRd_readBlock_55 {r1 : Nat} {s0 : Int32} (hX : X.length = 13) (hr1 : kBl r1) (k1 : (s0 = 0) → P (.inl (some (.int 0)), (hpo X mem sw o e))) (k2 : (¬ s0 = 0) → QW d mTok_take 0 (qen 2 [.ref 31, .int 9]) [] (hpo X mem sw o e) (qcl d mRd_readBlock 64 67 (lRd_readBlock_67 r1) [] P)) : QW (d + 1) mRd_readBlock 55 (lRd_readBlock_55 r1) [.int s0] (hpo X mem sw o e) P := by
  show QW (d + 1) mRd_readBlock 55 [.val (.ref 30), .val (.ref r1), .val (.ref 14)] [.int s0] (hpo X mem sw o e) P
  refine QW.if_eq (tgt := 82) dRd_readBlock_55 (by decide) (fun z0 => ?_) (fun z0 => ?_)
  · refine QW.iconst (v := 0) dRd_readBlock_82 (by decide) ?_
    exact QW.iret dRd_readBlock_83 rfl rfl (k1 z0)
  · refine QW.aload_n dRd_readBlock_58 rfl rfl ?_
    refine MW.getr (r' := 31) hX dRd_readBlock_59 fRd_12 rfl rfl (by cases sw <;> rfl) ?_
    refine QW.bipush (v := 9) dRd_readBlock_62 (by decide) ?_
    exact MW.calV (as := [.int 9]) (rest := []) hX dRd_readBlock_64 eTok_take lRd_64 iTok_take vTok_take rfl rfl rfl rfl rfl rfl (Nat.le_of_ble_eq_true rfl) rfl (k2 z0)
theorem bRd_readBlock_67 {r1 : Nat} {s0 : Int32} (hX : X.length = 13) (hr1 : kBl r1) (k1 : (s0 = 0) → QW (d + 1) mRd_readBlock 78 (lRd_readBlock_78 r1) [] (hpo X mem sw o e) P) (k2 : (¬ s0 = 0) → QW d mRd_readConditions 0 (qen 4 [.ref 30, .ref r1]) [] (hpo X mem sw o e) (qcl d mRd_readBlock 72 75 (lRd_readBlock_75 r1) [] P)) : QW (d + 1) mRd_readBlock 67 (lRd_readBlock_67 r1) [.int s0] (hpo X mem sw o e) P := by
  show QW (d + 1) mRd_readBlock 67 [.val (.ref 30), .val (.ref r1), .val (.ref 14)] [.int s0] (hpo X mem sw o e) P
  refine QW.if_eq (tgt := 78) dRd_readBlock_67 (by decide) (fun z0 => ?_) (fun z0 => ?_)
  · exact (k1 z0)
  · refine QW.aload_n dRd_readBlock_70 rfl rfl ?_
    refine QW.aload_n dRd_readBlock_71 rfl rfl ?_
    exact MW.calV (as := [.ref r1]) (rest := []) hX dRd_readBlock_72 eRd_readConditions lRd_81 iRd_readConditions vRd_readConditions rfl rfl rfl rfl rfl rfl (Nat.le_of_ble_eq_true rfl) rfl (k2 z0)
theorem bRd_readBlock_75 {r1 : Nat} {s0 : Int32} (hX : X.length = 13) (hr1 : kBl r1) (k1 : (s0 = 0) → P (.inl (some (.int 0)), (hpo X mem sw o e))) (k2 : (¬ s0 = 0) → QW d mRd_readBlock 78 (lRd_readBlock_78 r1) [] (hpo X mem sw o e) P) : QW d mRd_readBlock 75 (lRd_readBlock_75 r1) [.int s0] (hpo X mem sw o e) P := by
  show QW d mRd_readBlock 75 [.val (.ref 30), .val (.ref r1), .val (.ref 14)] [.int s0] (hpo X mem sw o e) P
  refine QW.if_eq (tgt := 82) dRd_readBlock_75 (by decide) (fun z0 => ?_) (fun z0 => ?_)
  · refine QW.iconst (v := 0) dRd_readBlock_82 (by decide) ?_
    exact QW.iret dRd_readBlock_83 rfl rfl (k1 z0)
  · exact (k2 z0)
theorem bRd_readBlock_78 {r1 : Nat} (hX : X.length = 13) (hr1 : kBl r1) (k1 : P (.inl (some (.int 1)), (hpo X mem sw o e))) : QW d mRd_readBlock 78 (lRd_readBlock_78 r1) [] (hpo X mem sw o e) P := by
  show QW d mRd_readBlock 78 [.val (.ref 30), .val (.ref r1), .val (.ref 14)] [] (hpo X mem sw o e) P
  refine QW.iconst (v := 1) dRd_readBlock_78 (by decide) ?_
  refine QW.goto (tgt := 83) dRd_readBlock_79 (by decide) ?_
  exact QW.iret dRd_readBlock_83 rfl rfl k1
theorem dRd_readOutputs_0 : decode mRd_readOutputs.2.1 0 = .ok (.iconst 1, 1) := by decide +kernel
theorem dRd_readOutputs_1 : decode mRd_readOutputs.2.1 1 = .ok (.istore_n 2, 1) := by decide +kernel
theorem dRd_readOutputs_2 : decode mRd_readOutputs.2.1 2 = .ok (.iconst 0, 1) := by decide +kernel
theorem dRd_readOutputs_3 : decode mRd_readOutputs.2.1 3 = .ok (.istore_n 3, 1) := by decide +kernel
theorem dRd_readOutputs_4 : decode mRd_readOutputs.2.1 4 = .ok (.iload_n 3, 1) := by decide +kernel
theorem dRd_readOutputs_5 : decode mRd_readOutputs.2.1 5 = .ok (.iconst 3, 1) := by decide +kernel
theorem dRd_readOutputs_6 : decode mRd_readOutputs.2.1 6 = .ok (.if_icmp .ge 59, 3) := by decide +kernel
theorem dRd_readOutputs_9 : decode mRd_readOutputs.2.1 9 = .ok (.iload_n 2, 1) := by decide +kernel
theorem dRd_readOutputs_10 : decode mRd_readOutputs.2.1 10 = .ok (.ifCond .eq 55, 3) := by decide +kernel
theorem dRd_readOutputs_13 : decode mRd_readOutputs.2.1 13 = .ok (.aload_n 0, 1) := by decide +kernel
theorem dRd_readOutputs_14 : decode mRd_readOutputs.2.1 14 = .ok (.aload_n 1, 1) := by decide +kernel
theorem dRd_readOutputs_15 : decode mRd_readOutputs.2.1 15 = .ok (.iload_n 3, 1) := by decide +kernel
theorem dRd_readOutputs_16 : decode mRd_readOutputs.2.1 16 = .ok (.invokevirtual 84, 3) := by decide +kernel
theorem dRd_readOutputs_19 : decode mRd_readOutputs.2.1 19 = .ok (.ifCond .ne 5, 3) := by decide +kernel
theorem dRd_readOutputs_22 : decode mRd_readOutputs.2.1 22 = .ok (.iconst 0, 1) := by decide +kernel
theorem dRd_readOutputs_23 : decode mRd_readOutputs.2.1 23 = .ok (.ireturn, 1) := by decide +kernel
theorem dRd_readOutputs_24 : decode mRd_readOutputs.2.1 24 = .ok (.aload_n 1, 1) := by decide +kernel
theorem dRd_readOutputs_25 : decode mRd_readOutputs.2.1 25 = .ok (.dup, 1) := by decide +kernel
theorem dRd_readOutputs_26 : decode mRd_readOutputs.2.1 26 = .ok (.getfield 50, 3) := by decide +kernel
theorem dRd_readOutputs_29 : decode mRd_readOutputs.2.1 29 = .ok (.iconst 1, 1) := by decide +kernel
theorem dRd_readOutputs_30 : decode mRd_readOutputs.2.1 30 = .ok (.iadd, 1) := by decide +kernel
theorem dRd_readOutputs_31 : decode mRd_readOutputs.2.1 31 = .ok (.putfield 50, 3) := by decide +kernel
theorem dRd_readOutputs_34 : decode mRd_readOutputs.2.1 34 = .ok (.iload_n 3, 1) := by decide +kernel
theorem dRd_readOutputs_35 : decode mRd_readOutputs.2.1 35 = .ok (.iconst 1, 1) := by decide +kernel
theorem dRd_readOutputs_36 : decode mRd_readOutputs.2.1 36 = .ok (.iadd, 1) := by decide +kernel
theorem dRd_readOutputs_37 : decode mRd_readOutputs.2.1 37 = .ok (.iconst 3, 1) := by decide +kernel
theorem dRd_readOutputs_38 : decode mRd_readOutputs.2.1 38 = .ok (.if_icmp .ge 19, 3) := by decide +kernel
theorem dRd_readOutputs_41 : decode mRd_readOutputs.2.1 41 = .ok (.aload_n 0, 1) := by decide +kernel
theorem dRd_readOutputs_42 : decode mRd_readOutputs.2.1 42 = .ok (.getfield 12, 3) := by decide +kernel
theorem dRd_readOutputs_45 : decode mRd_readOutputs.2.1 45 = .ok (.bipush 44, 2) := by decide +kernel
theorem dRd_readOutputs_47 : decode mRd_readOutputs.2.1 47 = .ok (.invokevirtual 64, 3) := by decide +kernel
theorem dRd_readOutputs_50 : decode mRd_readOutputs.2.1 50 = .ok (.ifCond .eq 7, 3) := by decide +kernel
theorem dRd_readOutputs_53 : decode mRd_readOutputs.2.1 53 = .ok (.iconst 1, 1) := by decide +kernel
theorem dRd_readOutputs_54 : decode mRd_readOutputs.2.1 54 = .ok (.goto 4, 3) := by decide +kernel
theorem dRd_readOutputs_57 : decode mRd_readOutputs.2.1 57 = .ok (.iconst 0, 1) := by decide +kernel
theorem dRd_readOutputs_58 : decode mRd_readOutputs.2.1 58 = .ok (.istore_n 2, 1) := by decide +kernel
theorem dRd_readOutputs_59 : decode mRd_readOutputs.2.1 59 = .ok (.iinc 3 1, 3) := by decide +kernel
theorem dRd_readOutputs_62 : decode mRd_readOutputs.2.1 62 = .ok (.goto (-58), 3) := by decide +kernel
theorem dRd_readOutputs_65 : decode mRd_readOutputs.2.1 65 = .ok (.iconst 1, 1) := by decide +kernel
theorem dRd_readOutputs_66 : decode mRd_readOutputs.2.1 66 = .ok (.ireturn, 1) := by decide +kernel
def lRd_readOutputs_4 (a2 : Int32) (a3 : Int32) (r1 : Nat) : List Slot := [.val (.ref 30), .val (.ref r1), .val (.int a2), .val (.int a3)]
def lRd_readOutputs_19 (a2 : Int32) (a3 : Int32) (r1 : Nat) : List Slot := [.val (.ref 30), .val (.ref r1), .val (.int a2), .val (.int a3)]
def lRd_readOutputs_50 (a2 : Int32) (a3 : Int32) (r1 : Nat) : List Slot := [.val (.ref 30), .val (.ref r1), .val (.int a2), .val (.int a3)]
def lRd_readOutputs_57 (a2 : Int32) (a3 : Int32) (r1 : Nat) : List Slot := [.val (.ref 30), .val (.ref r1), .val (.int a2), .val (.int a3)]
def lRd_readOutputs_58 (a2 : Int32) (a3 : Int32) (r1 : Nat) : List Slot := [.val (.ref 30), .val (.ref r1), .val (.int a2), .val (.int a3)]
theorem bRd_readOutputs_0 {r1 : Nat} (hX : X.length = 13) (hr1 : kBl r1) (k1 : QW d mRd_readOutputs 4 (lRd_readOutputs_4 1 0 r1) [] (hpo X mem sw o e) P) : QW d mRd_readOutputs 0 (qen 4 [.ref 30, .ref r1]) [] (hpo X mem sw o e) P := by
  show QW d mRd_readOutputs 0 [.val (.ref 30), .val (.ref r1), .unset, .unset] [] (hpo X mem sw o e) P
  refine QW.iconst (v := 1) dRd_readOutputs_0 (by decide) ?_
  refine QW.istore_n (ls' := [.val (.ref 30), .val (.ref r1), .val (.int 1), .unset]) dRd_readOutputs_1 rfl rfl ?_
  refine QW.iconst (v := 0) dRd_readOutputs_2 (by decide) ?_
  refine QW.istore_n (ls' := [.val (.ref 30), .val (.ref r1), .val (.int 1), .val (.int 0)]) dRd_readOutputs_3 rfl rfl ?_
  exact k1
theorem bRd_readOutputs_4 {r1 : Nat} {a2 : Int32} {a3 : Int32} (hX : X.length = 13) (hr1 : kBl r1) (k1 : (3 ≤ a3) → P (.inl (some (.int 1)), (hpo X mem sw o e))) (k2 : (¬ 3 ≤ a3) → (a2 = 0) → P (.inl (some (.int 1)), (hpo X mem sw o e))) (k3 : (¬ 3 ≤ a3) → (¬ a2 = 0) → QW d mRd_readValue 0 (qen 5 [.ref 30, .ref r1, .int a3]) [] (hpo X mem sw o e) (qcl d mRd_readOutputs 16 19 (lRd_readOutputs_19 a2 a3 r1) [] P)) : QW (d + 1) mRd_readOutputs 4 (lRd_readOutputs_4 a2 a3 r1) [] (hpo X mem sw o e) P := by
  show QW (d + 1) mRd_readOutputs 4 [.val (.ref 30), .val (.ref r1), .val (.int a2), .val (.int a3)] [] (hpo X mem sw o e) P
  refine QW.iload_n dRd_readOutputs_4 rfl rfl ?_
  refine QW.iconst (v := 3) dRd_readOutputs_5 (by decide) ?_
  refine QW.icmp_ge (tgt := 65) dRd_readOutputs_6 (by decide) (fun z0 => ?_) (fun z0 => ?_)
  · refine QW.iconst (v := 1) dRd_readOutputs_65 (by decide) ?_
    exact QW.iret dRd_readOutputs_66 rfl rfl (k1 z0)
  · refine QW.iload_n dRd_readOutputs_9 rfl rfl ?_
    refine QW.if_eq (tgt := 65) dRd_readOutputs_10 (by decide) (fun z1 => ?_) (fun z1 => ?_)
    · refine QW.iconst (v := 1) dRd_readOutputs_65 (by decide) ?_
      exact QW.iret dRd_readOutputs_66 rfl rfl (k2 z0 z1)
    · refine QW.aload_n dRd_readOutputs_13 rfl rfl ?_
      refine QW.aload_n dRd_readOutputs_14 rfl rfl ?_
      refine QW.iload_n dRd_readOutputs_15 rfl rfl ?_
      exact MW.calV (as := [.ref r1, .int a3]) (rest := []) hX dRd_readOutputs_16 eRd_readValue lRd_84 iRd_readValue vRd_readValue rfl rfl rfl rfl rfl rfl (Nat.le_of_ble_eq_true rfl) rfl (k3 z0 z1)
theorem bRd_readOutputs_19 {r1 : Nat} {a2 : Int32} {a3 : Int32} {s0 : Int32} (hX : X.length = 13) (hr1 : kBl r1) (k1 : (¬ s0 = 0) → (3 ≤ (a3 + 1)) → QW (d + 1) mRd_readOutputs 57 (lRd_readOutputs_57 a2 a3 r1) [] (hpo X (mup mem r1 1 ((mem r1 1) + 1)) sw o e) P) (k2 : (¬ s0 = 0) → (¬ 3 ≤ (a3 + 1)) → QW d mTok_take 0 (qen 2 [.ref 31, .int 44]) [] (hpo X (mup mem r1 1 ((mem r1 1) + 1)) sw o e) (qcl d mRd_readOutputs 47 50 (lRd_readOutputs_50 a2 a3 r1) [] P)) (k3 : (s0 = 0) → P (.inl (some (.int 0)), (hpo X mem sw o e))) : QW (d + 1) mRd_readOutputs 19 (lRd_readOutputs_19 a2 a3 r1) [.int s0] (hpo X mem sw o e) P := by
  show QW (d + 1) mRd_readOutputs 19 [.val (.ref 30), .val (.ref r1), .val (.int a2), .val (.int a3)] [.int s0] (hpo X mem sw o e) P
  refine QW.if_ne (tgt := 24) dRd_readOutputs_19 (by decide) (fun z0 => ?_) (fun z0 => ?_)
  · refine QW.aload_n dRd_readOutputs_24 rfl rfl ?_
    refine QW.dup dRd_readOutputs_25 rfl ?_
    refine MW.geti hX dRd_readOutputs_26 fRd_50 (kBl_0 hr1) rfl ?_
    refine QW.iconst (v := 1) dRd_readOutputs_29 (by decide) ?_
    refine QW.iadd dRd_readOutputs_30 ?_
    refine MW.puti hX dRd_readOutputs_31 fRd_50 (kBl_0 hr1) rfl rfl ?_
    refine QW.iload_n dRd_readOutputs_34 rfl rfl ?_
    refine QW.iconst (v := 1) dRd_readOutputs_35 (by decide) ?_
    refine QW.iadd dRd_readOutputs_36 ?_
    refine QW.iconst (v := 3) dRd_readOutputs_37 (by decide) ?_
    refine QW.icmp_ge (tgt := 57) dRd_readOutputs_38 (by decide) (fun z1 => ?_) (fun z1 => ?_)
    · exact (k1 z0 z1)
    · refine QW.aload_n dRd_readOutputs_41 rfl rfl ?_
      refine MW.getr (r' := 31) hX dRd_readOutputs_42 fRd_12 rfl rfl (by cases sw <;> rfl) ?_
      refine QW.bipush (v := 44) dRd_readOutputs_45 (by decide) ?_
      exact MW.calV (as := [.int 44]) (rest := []) hX dRd_readOutputs_47 eTok_take lRd_64 iTok_take vTok_take rfl rfl rfl rfl rfl rfl (Nat.le_of_ble_eq_true rfl) rfl (k2 z0 z1)
  · refine QW.iconst (v := 0) dRd_readOutputs_22 (by decide) ?_
    exact QW.iret dRd_readOutputs_23 rfl rfl (k3 z0)
theorem bRd_readOutputs_50 {r1 : Nat} {a2 : Int32} {a3 : Int32} {s0 : Int32} (hX : X.length = 13) (hr1 : kBl r1) (k1 : (s0 = 0) → QW d mRd_readOutputs 57 (lRd_readOutputs_57 a2 a3 r1) [] (hpo X mem sw o e) P) (k2 : (¬ s0 = 0) → QW d mRd_readOutputs 58 (lRd_readOutputs_58 a2 a3 r1) [.int 1] (hpo X mem sw o e) P) : QW d mRd_readOutputs 50 (lRd_readOutputs_50 a2 a3 r1) [.int s0] (hpo X mem sw o e) P := by
  show QW d mRd_readOutputs 50 [.val (.ref 30), .val (.ref r1), .val (.int a2), .val (.int a3)] [.int s0] (hpo X mem sw o e) P
  refine QW.if_eq (tgt := 57) dRd_readOutputs_50 (by decide) (fun z0 => ?_) (fun z0 => ?_)
  · exact (k1 z0)
  · refine QW.iconst (v := 1) dRd_readOutputs_53 (by decide) ?_
    refine QW.goto (tgt := 58) dRd_readOutputs_54 (by decide) ?_
    exact (k2 z0)
theorem bRd_readOutputs_57 {r1 : Nat} {a2 : Int32} {a3 : Int32} (hX : X.length = 13) (hr1 : kBl r1) (k1 : QW d mRd_readOutputs 58 (lRd_readOutputs_58 a2 a3 r1) [.int 0] (hpo X mem sw o e) P) : QW d mRd_readOutputs 57 (lRd_readOutputs_57 a2 a3 r1) [] (hpo X mem sw o e) P := by
  show QW d mRd_readOutputs 57 [.val (.ref 30), .val (.ref r1), .val (.int a2), .val (.int a3)] [] (hpo X mem sw o e) P
  refine QW.iconst (v := 0) dRd_readOutputs_57 (by decide) ?_
  exact k1
theorem bRd_readOutputs_58 {r1 : Nat} {a2 : Int32} {a3 : Int32} {s0 : Int32} (hX : X.length = 13) (hr1 : kBl r1) (k1 : QW d mRd_readOutputs 4 (lRd_readOutputs_4 s0 (a3 + 1) r1) [] (hpo X mem sw o e) P) : QW d mRd_readOutputs 58 (lRd_readOutputs_58 a2 a3 r1) [.int s0] (hpo X mem sw o e) P := by
  show QW d mRd_readOutputs 58 [.val (.ref 30), .val (.ref r1), .val (.int a2), .val (.int a3)] [.int s0] (hpo X mem sw o e) P
  refine QW.istore_n (ls' := [.val (.ref 30), .val (.ref r1), .val (.int s0), .val (.int a3)]) dRd_readOutputs_58 rfl rfl ?_
  refine MW.iinc (c := 1) (ls' := [.val (.ref 30), .val (.ref r1), .val (.int s0), .val (.int (a3 + 1))]) dRd_readOutputs_59 (by decide) rfl rfl ?_
  refine QW.goto (tgt := 4) dRd_readOutputs_62 (by decide) ?_
  exact k1
theorem dRd_readSources_0 : decode mRd_readSources.2.1 0 = .ok (.iconst 1, 1) := by decide +kernel
theorem dRd_readSources_1 : decode mRd_readSources.2.1 1 = .ok (.istore_n 3, 1) := by decide +kernel
theorem dRd_readSources_2 : decode mRd_readSources.2.1 2 = .ok (.iconst 0, 1) := by decide +kernel
theorem dRd_readSources_3 : decode mRd_readSources.2.1 3 = .ok (.istore 4, 2) := by decide +kernel
theorem dRd_readSources_5 : decode mRd_readSources.2.1 5 = .ok (.iload 4, 2) := by decide +kernel
theorem dRd_readSources_7 : decode mRd_readSources.2.1 7 = .ok (.iconst 4, 1) := by decide +kernel
theorem dRd_readSources_8 : decode mRd_readSources.2.1 8 = .ok (.if_icmp .ge 127, 3) := by decide +kernel
theorem dRd_readSources_11 : decode mRd_readSources.2.1 11 = .ok (.iload_n 3, 1) := by decide +kernel
theorem dRd_readSources_12 : decode mRd_readSources.2.1 12 = .ok (.ifCond .eq 123, 3) := by decide +kernel
theorem dRd_readSources_15 : decode mRd_readSources.2.1 15 = .ok (.aload_n 0, 1) := by decide +kernel
theorem dRd_readSources_16 : decode mRd_readSources.2.1 16 = .ok (.getfield 12, 3) := by decide +kernel
theorem dRd_readSources_19 : decode mRd_readSources.2.1 19 = .ok (.invokevirtual 88, 3) := by decide +kernel
theorem dRd_readSources_22 : decode mRd_readSources.2.1 22 = .ok (.istore 5, 2) := by decide +kernel
theorem dRd_readSources_24 : decode mRd_readSources.2.1 24 = .ok (.aload_n 0, 1) := by decide +kernel
theorem dRd_readSources_25 : decode mRd_readSources.2.1 25 = .ok (.getfield 12, 3) := by decide +kernel
theorem dRd_readSources_28 : decode mRd_readSources.2.1 28 = .ok (.iconst 4, 1) := by decide +kernel
theorem dRd_readSources_29 : decode mRd_readSources.2.1 29 = .ok (.invokevirtual 53, 3) := by decide +kernel
theorem dRd_readSources_32 : decode mRd_readSources.2.1 32 = .ok (.ifCond .eq 12, 3) := by decide +kernel
theorem dRd_readSources_35 : decode mRd_readSources.2.1 35 = .ok (.aload_n 2, 1) := by decide +kernel
theorem dRd_readSources_36 : decode mRd_readSources.2.1 36 = .ok (.iload 5, 2) := by decide +kernel
theorem dRd_readSources_38 : decode mRd_readSources.2.1 38 = .ok (.invokevirtual 91, 3) := by decide +kernel
theorem dRd_readSources_41 : decode mRd_readSources.2.1 41 = .ok (.ifCond .ne 5, 3) := by decide +kernel
theorem dRd_readSources_44 : decode mRd_readSources.2.1 44 = .ok (.iconst 0, 1) := by decide +kernel
theorem dRd_readSources_45 : decode mRd_readSources.2.1 45 = .ok (.ireturn, 1) := by decide +kernel
theorem dRd_readSources_46 : decode mRd_readSources.2.1 46 = .ok (.aload_n 0, 1) := by decide +kernel
theorem dRd_readSources_47 : decode mRd_readSources.2.1 47 = .ok (.getfield 12, 3) := by decide +kernel
theorem dRd_readSources_50 : decode mRd_readSources.2.1 50 = .ok (.iconst 4, 1) := by decide +kernel
theorem dRd_readSources_51 : decode mRd_readSources.2.1 51 = .ok (.invokevirtual 64, 3) := by decide +kernel
theorem dRd_readSources_54 : decode mRd_readSources.2.1 54 = .ok (.pop, 1) := by decide +kernel
theorem dRd_readSources_55 : decode mRd_readSources.2.1 55 = .ok (.aload_n 0, 1) := by decide +kernel
theorem dRd_readSources_56 : decode mRd_readSources.2.1 56 = .ok (.getfield 12, 3) := by decide +kernel
theorem dRd_readSources_59 : decode mRd_readSources.2.1 59 = .ok (.invokevirtual 88, 3) := by decide +kernel
theorem dRd_readSources_62 : decode mRd_readSources.2.1 62 = .ok (.istore 6, 2) := by decide +kernel
theorem dRd_readSources_64 : decode mRd_readSources.2.1 64 = .ok (.aload_n 0, 1) := by decide +kernel
theorem dRd_readSources_65 : decode mRd_readSources.2.1 65 = .ok (.getfield 12, 3) := by decide +kernel
theorem dRd_readSources_68 : decode mRd_readSources.2.1 68 = .ok (.iconst 3, 1) := by decide +kernel
theorem dRd_readSources_69 : decode mRd_readSources.2.1 69 = .ok (.invokevirtual 53, 3) := by decide +kernel
theorem dRd_readSources_72 : decode mRd_readSources.2.1 72 = .ok (.ifCond .eq 12, 3) := by decide +kernel
theorem dRd_readSources_75 : decode mRd_readSources.2.1 75 = .ok (.aload_n 1, 1) := by decide +kernel
theorem dRd_readSources_76 : decode mRd_readSources.2.1 76 = .ok (.iload 6, 2) := by decide +kernel
theorem dRd_readSources_78 : decode mRd_readSources.2.1 78 = .ok (.invokevirtual 96, 3) := by decide +kernel
theorem dRd_readSources_81 : decode mRd_readSources.2.1 81 = .ok (.ifCond .lt 5, 3) := by decide +kernel
theorem dRd_readSources_84 : decode mRd_readSources.2.1 84 = .ok (.iconst 0, 1) := by decide +kernel
theorem dRd_readSources_85 : decode mRd_readSources.2.1 85 = .ok (.ireturn, 1) := by decide +kernel
theorem dRd_readSources_86 : decode mRd_readSources.2.1 86 = .ok (.aload_n 0, 1) := by decide +kernel
theorem dRd_readSources_87 : decode mRd_readSources.2.1 87 = .ok (.getfield 12, 3) := by decide +kernel
theorem dRd_readSources_90 : decode mRd_readSources.2.1 90 = .ok (.iconst 3, 1) := by decide +kernel
theorem dRd_readSources_91 : decode mRd_readSources.2.1 91 = .ok (.invokevirtual 64, 3) := by decide +kernel
theorem dRd_readSources_94 : decode mRd_readSources.2.1 94 = .ok (.pop, 1) := by decide +kernel
theorem dRd_readSources_95 : decode mRd_readSources.2.1 95 = .ok (.aload_n 1, 1) := by decide +kernel
theorem dRd_readSources_96 : decode mRd_readSources.2.1 96 = .ok (.iload 5, 2) := by decide +kernel
theorem dRd_readSources_98 : decode mRd_readSources.2.1 98 = .ok (.iload 6, 2) := by decide +kernel
theorem dRd_readSources_100 : decode mRd_readSources.2.1 100 = .ok (.invokevirtual 100, 3) := by decide +kernel
theorem dRd_readSources_103 : decode mRd_readSources.2.1 103 = .ok (.iload 4, 2) := by decide +kernel
theorem dRd_readSources_105 : decode mRd_readSources.2.1 105 = .ok (.iconst 1, 1) := by decide +kernel
theorem dRd_readSources_106 : decode mRd_readSources.2.1 106 = .ok (.iadd, 1) := by decide +kernel
theorem dRd_readSources_107 : decode mRd_readSources.2.1 107 = .ok (.iconst 4, 1) := by decide +kernel
theorem dRd_readSources_108 : decode mRd_readSources.2.1 108 = .ok (.if_icmp .ge 19, 3) := by decide +kernel
theorem dRd_readSources_111 : decode mRd_readSources.2.1 111 = .ok (.aload_n 0, 1) := by decide +kernel
theorem dRd_readSources_112 : decode mRd_readSources.2.1 112 = .ok (.getfield 12, 3) := by decide +kernel
theorem dRd_readSources_115 : decode mRd_readSources.2.1 115 = .ok (.bipush 44, 2) := by decide +kernel
theorem dRd_readSources_117 : decode mRd_readSources.2.1 117 = .ok (.invokevirtual 64, 3) := by decide +kernel
theorem dRd_readSources_120 : decode mRd_readSources.2.1 120 = .ok (.ifCond .eq 7, 3) := by decide +kernel
theorem dRd_readSources_123 : decode mRd_readSources.2.1 123 = .ok (.iconst 1, 1) := by decide +kernel
theorem dRd_readSources_124 : decode mRd_readSources.2.1 124 = .ok (.goto 4, 3) := by decide +kernel
theorem dRd_readSources_127 : decode mRd_readSources.2.1 127 = .ok (.iconst 0, 1) := by decide +kernel
theorem dRd_readSources_128 : decode mRd_readSources.2.1 128 = .ok (.istore_n 3, 1) := by decide +kernel
theorem dRd_readSources_129 : decode mRd_readSources.2.1 129 = .ok (.iinc 4 1, 3) := by decide +kernel
theorem dRd_readSources_132 : decode mRd_readSources.2.1 132 = .ok (.goto (-127), 3) := by decide +kernel
theorem dRd_readSources_135 : decode mRd_readSources.2.1 135 = .ok (.iconst 1, 1) := by decide +kernel
theorem dRd_readSources_136 : decode mRd_readSources.2.1 136 = .ok (.ireturn, 1) := by decide +kernel
def lRd_readSources_5 (a3 : Int32) (a4 : Int32) (w5 : Slot) (w6 : Slot) (r1 : Nat) : List Slot := [.val (.ref 30), .val (.ref r1), .val (.ref 14), .val (.int a3), .val (.int a4), w5, w6]
def lRd_readSources_22 (a3 : Int32) (a4 : Int32) (w5 : Slot) (w6 : Slot) (r1 : Nat) : List Slot := [.val (.ref 30), .val (.ref r1), .val (.ref 14), .val (.int a3), .val (.int a4), w5, w6]
def lRd_readSources_32 (a3 : Int32) (a4 : Int32) (a5 : Int32) (w6 : Slot) (r1 : Nat) : List Slot := [.val (.ref 30), .val (.ref r1), .val (.ref 14), .val (.int a3), .val (.int a4), .val (.int a5), w6]
def lRd_readSources_41 (a3 : Int32) (a4 : Int32) (a5 : Int32) (w6 : Slot) (r1 : Nat) : List Slot := [.val (.ref 30), .val (.ref r1), .val (.ref 14), .val (.int a3), .val (.int a4), .val (.int a5), w6]
def lRd_readSources_54 (a3 : Int32) (a4 : Int32) (a5 : Int32) (w6 : Slot) (r1 : Nat) : List Slot := [.val (.ref 30), .val (.ref r1), .val (.ref 14), .val (.int a3), .val (.int a4), .val (.int a5), w6]
def lRd_readSources_62 (a3 : Int32) (a4 : Int32) (a5 : Int32) (w6 : Slot) (r1 : Nat) : List Slot := [.val (.ref 30), .val (.ref r1), .val (.ref 14), .val (.int a3), .val (.int a4), .val (.int a5), w6]
def lRd_readSources_72 (a3 : Int32) (a4 : Int32) (a5 : Int32) (a6 : Int32) (r1 : Nat) : List Slot := [.val (.ref 30), .val (.ref r1), .val (.ref 14), .val (.int a3), .val (.int a4), .val (.int a5), .val (.int a6)]
def lRd_readSources_81 (a3 : Int32) (a4 : Int32) (a5 : Int32) (a6 : Int32) (r1 : Nat) : List Slot := [.val (.ref 30), .val (.ref r1), .val (.ref 14), .val (.int a3), .val (.int a4), .val (.int a5), .val (.int a6)]
def lRd_readSources_94 (a3 : Int32) (a4 : Int32) (a5 : Int32) (a6 : Int32) (r1 : Nat) : List Slot := [.val (.ref 30), .val (.ref r1), .val (.ref 14), .val (.int a3), .val (.int a4), .val (.int a5), .val (.int a6)]
def lRd_readSources_103 (a3 : Int32) (a4 : Int32) (a5 : Int32) (a6 : Int32) (r1 : Nat) : List Slot := [.val (.ref 30), .val (.ref r1), .val (.ref 14), .val (.int a3), .val (.int a4), .val (.int a5), .val (.int a6)]
def lRd_readSources_120 (a3 : Int32) (a4 : Int32) (a5 : Int32) (a6 : Int32) (r1 : Nat) : List Slot := [.val (.ref 30), .val (.ref r1), .val (.ref 14), .val (.int a3), .val (.int a4), .val (.int a5), .val (.int a6)]
def lRd_readSources_127 (a3 : Int32) (a4 : Int32) (a5 : Int32) (a6 : Int32) (r1 : Nat) : List Slot := [.val (.ref 30), .val (.ref r1), .val (.ref 14), .val (.int a3), .val (.int a4), .val (.int a5), .val (.int a6)]
def lRd_readSources_128 (a3 : Int32) (a4 : Int32) (a5 : Int32) (a6 : Int32) (r1 : Nat) : List Slot := [.val (.ref 30), .val (.ref r1), .val (.ref 14), .val (.int a3), .val (.int a4), .val (.int a5), .val (.int a6)]
theorem bRd_readSources_0 {r1 : Nat} (hX : X.length = 13) (hr1 : kBl r1) (k1 : QW d mRd_readSources 5 (lRd_readSources_5 1 0 .unset .unset r1) [] (hpo X mem sw o e) P) : QW d mRd_readSources 0 (qen 7 [.ref 30, .ref r1, .ref 14]) [] (hpo X mem sw o e) P := by
  show QW d mRd_readSources 0 [.val (.ref 30), .val (.ref r1), .val (.ref 14), .unset, .unset, .unset, .unset] [] (hpo X mem sw o e) P
  refine QW.iconst (v := 1) dRd_readSources_0 (by decide) ?_
  refine QW.istore_n (ls' := [.val (.ref 30), .val (.ref r1), .val (.ref 14), .val (.int 1), .unset, .unset, .unset]) dRd_readSources_1 rfl rfl ?_
  refine QW.iconst (v := 0) dRd_readSources_2 (by decide) ?_
  refine QW.istore (ls' := [.val (.ref 30), .val (.ref r1), .val (.ref 14), .val (.int 1), .val (.int 0), .unset, .unset]) dRd_readSources_3 rfl ?_
  exact k1
theorem bRd_readSources_5 {r1 : Nat} {a3 : Int32} {a4 : Int32} {w5 : Slot} {w6 : Slot} (hX : X.length = 13) (hr1 : kBl r1) (hw5 : qfr w5) (hw6 : qfr w6) (k1 : (4 ≤ a4) → P (.inl (some (.int 1)), (hpo X mem sw o e))) (k2 : (¬ 4 ≤ a4) → (a3 = 0) → P (.inl (some (.int 1)), (hpo X mem sw o e))) (k3 : (¬ 4 ≤ a4) → (¬ a3 = 0) → QW d mTok_value 0 (qen 1 [.ref 31]) [] (hpo X mem sw o e) (qcl d mRd_readSources 19 22 (lRd_readSources_22 a3 a4 w5 w6 r1) [] P)) : QW (d + 1) mRd_readSources 5 (lRd_readSources_5 a3 a4 w5 w6 r1) [] (hpo X mem sw o e) P := by
  show QW (d + 1) mRd_readSources 5 [.val (.ref 30), .val (.ref r1), .val (.ref 14), .val (.int a3), .val (.int a4), w5, w6] [] (hpo X mem sw o e) P
  refine QW.iload dRd_readSources_5 rfl ?_
  refine QW.iconst (v := 4) dRd_readSources_7 (by decide) ?_
  refine QW.icmp_ge (tgt := 135) dRd_readSources_8 (by decide) (fun z0 => ?_) (fun z0 => ?_)
  · refine QW.iconst (v := 1) dRd_readSources_135 (by decide) ?_
    exact QW.iret dRd_readSources_136 rfl rfl (k1 z0)
  · refine QW.iload_n dRd_readSources_11 rfl rfl ?_
    refine QW.if_eq (tgt := 135) dRd_readSources_12 (by decide) (fun z1 => ?_) (fun z1 => ?_)
    · refine QW.iconst (v := 1) dRd_readSources_135 (by decide) ?_
      exact QW.iret dRd_readSources_136 rfl rfl (k2 z0 z1)
    · refine QW.aload_n dRd_readSources_15 rfl rfl ?_
      refine MW.getr (r' := 31) hX dRd_readSources_16 fRd_12 rfl rfl (by cases sw <;> rfl) ?_
      exact MW.calV (as := []) (rest := []) hX dRd_readSources_19 eTok_value lRd_88 iTok_value vTok_value rfl rfl rfl rfl rfl rfl (Nat.le_of_ble_eq_true rfl) rfl (k3 z0 z1)
theorem bRd_readSources_22 {r1 : Nat} {a3 : Int32} {a4 : Int32} {w5 : Slot} {w6 : Slot} {s0 : Int32} (hX : X.length = 13) (hr1 : kBl r1) (hw5 : qfr w5) (hw6 : qfr w6) (k1 : QW d mTok_is 0 (qen 2 [.ref 31, .int 4]) [] (hpo X mem sw o e) (qcl d mRd_readSources 29 32 (lRd_readSources_32 a3 a4 s0 w6 r1) [] P)) : QW (d + 1) mRd_readSources 22 (lRd_readSources_22 a3 a4 w5 w6 r1) [.int s0] (hpo X mem sw o e) P := by
  show QW (d + 1) mRd_readSources 22 [.val (.ref 30), .val (.ref r1), .val (.ref 14), .val (.int a3), .val (.int a4), w5, w6] [.int s0] (hpo X mem sw o e) P
  refine QW.istore (ls' := [.val (.ref 30), .val (.ref r1), .val (.ref 14), .val (.int a3), .val (.int a4), .val (.int s0), w6]) dRd_readSources_22 (by rcases hw5 with z | ⟨_, z⟩ | ⟨_, z⟩ <;> subst z <;> rfl) ?_
  refine QW.aload_n dRd_readSources_24 rfl rfl ?_
  refine MW.getr (r' := 31) hX dRd_readSources_25 fRd_12 rfl rfl (by cases sw <;> rfl) ?_
  refine QW.iconst (v := 4) dRd_readSources_28 (by decide) ?_
  exact MW.calV (as := [.int 4]) (rest := []) hX dRd_readSources_29 eTok_is lRd_53 iTok_is vTok_is rfl rfl rfl rfl rfl rfl (Nat.le_of_ble_eq_true rfl) rfl k1
theorem bRd_readSources_32 {r1 : Nat} {a3 : Int32} {a4 : Int32} {a5 : Int32} {w6 : Slot} {s0 : Int32} (hX : X.length = 13) (hr1 : kBl r1) (hw6 : qfr w6) (k1 : (s0 = 0) → P (.inl (some (.int 0)), (hpo X mem sw o e))) (k2 : (¬ s0 = 0) → QW d mCat_has 0 (qen 2 [.ref 14, .int a5]) [] (hpo X mem sw o e) (qcl d mRd_readSources 38 41 (lRd_readSources_41 a3 a4 a5 w6 r1) [] P)) : QW (d + 1) mRd_readSources 32 (lRd_readSources_32 a3 a4 a5 w6 r1) [.int s0] (hpo X mem sw o e) P := by
  show QW (d + 1) mRd_readSources 32 [.val (.ref 30), .val (.ref r1), .val (.ref 14), .val (.int a3), .val (.int a4), .val (.int a5), w6] [.int s0] (hpo X mem sw o e) P
  refine QW.if_eq (tgt := 44) dRd_readSources_32 (by decide) (fun z0 => ?_) (fun z0 => ?_)
  · refine QW.iconst (v := 0) dRd_readSources_44 (by decide) ?_
    exact QW.iret dRd_readSources_45 rfl rfl (k1 z0)
  · refine QW.aload_n dRd_readSources_35 rfl rfl ?_
    refine QW.iload dRd_readSources_36 rfl ?_
    exact MW.calV (as := [.int a5]) (rest := []) hX dRd_readSources_38 eCat_has lRd_91 iCat_has vCat_has rfl rfl rfl rfl rfl rfl (Nat.le_of_ble_eq_true rfl) rfl (k2 z0)
theorem bRd_readSources_41 {r1 : Nat} {a3 : Int32} {a4 : Int32} {a5 : Int32} {w6 : Slot} {s0 : Int32} (hX : X.length = 13) (hr1 : kBl r1) (hw6 : qfr w6) (k1 : (¬ s0 = 0) → QW d mTok_take 0 (qen 2 [.ref 31, .int 4]) [] (hpo X mem sw o e) (qcl d mRd_readSources 51 54 (lRd_readSources_54 a3 a4 a5 w6 r1) [] P)) (k2 : (s0 = 0) → P (.inl (some (.int 0)), (hpo X mem sw o e))) : QW (d + 1) mRd_readSources 41 (lRd_readSources_41 a3 a4 a5 w6 r1) [.int s0] (hpo X mem sw o e) P := by
  show QW (d + 1) mRd_readSources 41 [.val (.ref 30), .val (.ref r1), .val (.ref 14), .val (.int a3), .val (.int a4), .val (.int a5), w6] [.int s0] (hpo X mem sw o e) P
  refine QW.if_ne (tgt := 46) dRd_readSources_41 (by decide) (fun z0 => ?_) (fun z0 => ?_)
  · refine QW.aload_n dRd_readSources_46 rfl rfl ?_
    refine MW.getr (r' := 31) hX dRd_readSources_47 fRd_12 rfl rfl (by cases sw <;> rfl) ?_
    refine QW.iconst (v := 4) dRd_readSources_50 (by decide) ?_
    exact MW.calV (as := [.int 4]) (rest := []) hX dRd_readSources_51 eTok_take lRd_64 iTok_take vTok_take rfl rfl rfl rfl rfl rfl (Nat.le_of_ble_eq_true rfl) rfl (k1 z0)
  · refine QW.iconst (v := 0) dRd_readSources_44 (by decide) ?_
    exact QW.iret dRd_readSources_45 rfl rfl (k2 z0)
theorem bRd_readSources_54 {r1 : Nat} {a3 : Int32} {a4 : Int32} {a5 : Int32} {w6 : Slot} {s0 : Int32} (hX : X.length = 13) (hr1 : kBl r1) (hw6 : qfr w6) (k1 : QW d mTok_value 0 (qen 1 [.ref 31]) [] (hpo X mem sw o e) (qcl d mRd_readSources 59 62 (lRd_readSources_62 a3 a4 a5 w6 r1) [] P)) : QW (d + 1) mRd_readSources 54 (lRd_readSources_54 a3 a4 a5 w6 r1) [.int s0] (hpo X mem sw o e) P := by
  show QW (d + 1) mRd_readSources 54 [.val (.ref 30), .val (.ref r1), .val (.ref 14), .val (.int a3), .val (.int a4), .val (.int a5), w6] [.int s0] (hpo X mem sw o e) P
  refine QW.pop dRd_readSources_54 rfl ?_
  refine QW.aload_n dRd_readSources_55 rfl rfl ?_
  refine MW.getr (r' := 31) hX dRd_readSources_56 fRd_12 rfl rfl (by cases sw <;> rfl) ?_
  exact MW.calV (as := []) (rest := []) hX dRd_readSources_59 eTok_value lRd_88 iTok_value vTok_value rfl rfl rfl rfl rfl rfl (Nat.le_of_ble_eq_true rfl) rfl k1
theorem bRd_readSources_62 {r1 : Nat} {a3 : Int32} {a4 : Int32} {a5 : Int32} {w6 : Slot} {s0 : Int32} (hX : X.length = 13) (hr1 : kBl r1) (hw6 : qfr w6) (k1 : QW d mTok_is 0 (qen 2 [.ref 31, .int 3]) [] (hpo X mem sw o e) (qcl d mRd_readSources 69 72 (lRd_readSources_72 a3 a4 a5 s0 r1) [] P)) : QW (d + 1) mRd_readSources 62 (lRd_readSources_62 a3 a4 a5 w6 r1) [.int s0] (hpo X mem sw o e) P := by
  show QW (d + 1) mRd_readSources 62 [.val (.ref 30), .val (.ref r1), .val (.ref 14), .val (.int a3), .val (.int a4), .val (.int a5), w6] [.int s0] (hpo X mem sw o e) P
  refine QW.istore (ls' := [.val (.ref 30), .val (.ref r1), .val (.ref 14), .val (.int a3), .val (.int a4), .val (.int a5), .val (.int s0)]) dRd_readSources_62 (by rcases hw6 with z | ⟨_, z⟩ | ⟨_, z⟩ <;> subst z <;> rfl) ?_
  refine QW.aload_n dRd_readSources_64 rfl rfl ?_
  refine MW.getr (r' := 31) hX dRd_readSources_65 fRd_12 rfl rfl (by cases sw <;> rfl) ?_
  refine QW.iconst (v := 3) dRd_readSources_68 (by decide) ?_
  exact MW.calV (as := [.int 3]) (rest := []) hX dRd_readSources_69 eTok_is lRd_53 iTok_is vTok_is rfl rfl rfl rfl rfl rfl (Nat.le_of_ble_eq_true rfl) rfl k1
theorem bRd_readSources_72 {r1 : Nat} {a3 : Int32} {a4 : Int32} {a5 : Int32} {a6 : Int32} {s0 : Int32} (hX : X.length = 13) (hr1 : kBl r1) (k1 : (s0 = 0) → P (.inl (some (.int 0)), (hpo X mem sw o e))) (k2 : (¬ s0 = 0) → QW d mBl_sourceNamed 0 (qen 3 [.ref r1, .int a6]) [] (hpo X mem sw o e) (qcl d mRd_readSources 78 81 (lRd_readSources_81 a3 a4 a5 a6 r1) [] P)) : QW (d + 1) mRd_readSources 72 (lRd_readSources_72 a3 a4 a5 a6 r1) [.int s0] (hpo X mem sw o e) P := by
  show QW (d + 1) mRd_readSources 72 [.val (.ref 30), .val (.ref r1), .val (.ref 14), .val (.int a3), .val (.int a4), .val (.int a5), .val (.int a6)] [.int s0] (hpo X mem sw o e) P
  refine QW.if_eq (tgt := 84) dRd_readSources_72 (by decide) (fun z0 => ?_) (fun z0 => ?_)
  · refine QW.iconst (v := 0) dRd_readSources_84 (by decide) ?_
    exact QW.iret dRd_readSources_85 rfl rfl (k1 z0)
  · refine QW.aload_n dRd_readSources_75 rfl rfl ?_
    refine QW.iload dRd_readSources_76 rfl ?_
    exact MW.calV (as := [.int a6]) (rest := []) hX dRd_readSources_78 eBl_sourceNamed lRd_96 iBl_sourceNamed vBl_sourceNamed rfl rfl (kBl_0 hr1) rfl rfl rfl (Nat.le_of_ble_eq_true rfl) rfl (k2 z0)
theorem bRd_readSources_81 {r1 : Nat} {a3 : Int32} {a4 : Int32} {a5 : Int32} {a6 : Int32} {s0 : Int32} (hX : X.length = 13) (hr1 : kBl r1) (k1 : (s0 < 0) → QW d mTok_take 0 (qen 2 [.ref 31, .int 3]) [] (hpo X mem sw o e) (qcl d mRd_readSources 91 94 (lRd_readSources_94 a3 a4 a5 a6 r1) [] P)) (k2 : (¬ s0 < 0) → P (.inl (some (.int 0)), (hpo X mem sw o e))) : QW (d + 1) mRd_readSources 81 (lRd_readSources_81 a3 a4 a5 a6 r1) [.int s0] (hpo X mem sw o e) P := by
  show QW (d + 1) mRd_readSources 81 [.val (.ref 30), .val (.ref r1), .val (.ref 14), .val (.int a3), .val (.int a4), .val (.int a5), .val (.int a6)] [.int s0] (hpo X mem sw o e) P
  refine QW.if_lt (tgt := 86) dRd_readSources_81 (by decide) (fun z0 => ?_) (fun z0 => ?_)
  · refine QW.aload_n dRd_readSources_86 rfl rfl ?_
    refine MW.getr (r' := 31) hX dRd_readSources_87 fRd_12 rfl rfl (by cases sw <;> rfl) ?_
    refine QW.iconst (v := 3) dRd_readSources_90 (by decide) ?_
    exact MW.calV (as := [.int 3]) (rest := []) hX dRd_readSources_91 eTok_take lRd_64 iTok_take vTok_take rfl rfl rfl rfl rfl rfl (Nat.le_of_ble_eq_true rfl) rfl (k1 z0)
  · refine QW.iconst (v := 0) dRd_readSources_84 (by decide) ?_
    exact QW.iret dRd_readSources_85 rfl rfl (k2 z0)
theorem bRd_readSources_94 {r1 : Nat} {a3 : Int32} {a4 : Int32} {a5 : Int32} {a6 : Int32} {s0 : Int32} (hX : X.length = 13) (hr1 : kBl r1) (k1 : QW d mBl_addSource 0 (qen 3 [.ref r1, .int a5, .int a6]) [] (hpo X mem sw o e) (qcl d mRd_readSources 100 103 (lRd_readSources_103 a3 a4 a5 a6 r1) [] P)) : QW (d + 1) mRd_readSources 94 (lRd_readSources_94 a3 a4 a5 a6 r1) [.int s0] (hpo X mem sw o e) P := by
  show QW (d + 1) mRd_readSources 94 [.val (.ref 30), .val (.ref r1), .val (.ref 14), .val (.int a3), .val (.int a4), .val (.int a5), .val (.int a6)] [.int s0] (hpo X mem sw o e) P
  refine QW.pop dRd_readSources_94 rfl ?_
  refine QW.aload_n dRd_readSources_95 rfl rfl ?_
  refine QW.iload dRd_readSources_96 rfl ?_
  refine QW.iload dRd_readSources_98 rfl ?_
  exact MW.calV (as := [.int a5, .int a6]) (rest := []) hX dRd_readSources_100 eBl_addSource lRd_100 iBl_addSource vBl_addSource rfl rfl (kBl_0 hr1) rfl rfl rfl (Nat.le_of_ble_eq_true rfl) rfl k1
theorem bRd_readSources_103 {r1 : Nat} {a3 : Int32} {a4 : Int32} {a5 : Int32} {a6 : Int32} (hX : X.length = 13) (hr1 : kBl r1) (k1 : (4 ≤ (a4 + 1)) → QW (d + 1) mRd_readSources 127 (lRd_readSources_127 a3 a4 a5 a6 r1) [] (hpo X mem sw o e) P) (k2 : (¬ 4 ≤ (a4 + 1)) → QW d mTok_take 0 (qen 2 [.ref 31, .int 44]) [] (hpo X mem sw o e) (qcl d mRd_readSources 117 120 (lRd_readSources_120 a3 a4 a5 a6 r1) [] P)) : QW (d + 1) mRd_readSources 103 (lRd_readSources_103 a3 a4 a5 a6 r1) [] (hpo X mem sw o e) P := by
  show QW (d + 1) mRd_readSources 103 [.val (.ref 30), .val (.ref r1), .val (.ref 14), .val (.int a3), .val (.int a4), .val (.int a5), .val (.int a6)] [] (hpo X mem sw o e) P
  refine QW.iload dRd_readSources_103 rfl ?_
  refine QW.iconst (v := 1) dRd_readSources_105 (by decide) ?_
  refine QW.iadd dRd_readSources_106 ?_
  refine QW.iconst (v := 4) dRd_readSources_107 (by decide) ?_
  refine QW.icmp_ge (tgt := 127) dRd_readSources_108 (by decide) (fun z0 => ?_) (fun z0 => ?_)
  · exact (k1 z0)
  · refine QW.aload_n dRd_readSources_111 rfl rfl ?_
    refine MW.getr (r' := 31) hX dRd_readSources_112 fRd_12 rfl rfl (by cases sw <;> rfl) ?_
    refine QW.bipush (v := 44) dRd_readSources_115 (by decide) ?_
    exact MW.calV (as := [.int 44]) (rest := []) hX dRd_readSources_117 eTok_take lRd_64 iTok_take vTok_take rfl rfl rfl rfl rfl rfl (Nat.le_of_ble_eq_true rfl) rfl (k2 z0)
theorem bRd_readSources_120 {r1 : Nat} {a3 : Int32} {a4 : Int32} {a5 : Int32} {a6 : Int32} {s0 : Int32} (hX : X.length = 13) (hr1 : kBl r1) (k1 : (s0 = 0) → QW d mRd_readSources 127 (lRd_readSources_127 a3 a4 a5 a6 r1) [] (hpo X mem sw o e) P) (k2 : (¬ s0 = 0) → QW d mRd_readSources 128 (lRd_readSources_128 a3 a4 a5 a6 r1) [.int 1] (hpo X mem sw o e) P) : QW d mRd_readSources 120 (lRd_readSources_120 a3 a4 a5 a6 r1) [.int s0] (hpo X mem sw o e) P := by
  show QW d mRd_readSources 120 [.val (.ref 30), .val (.ref r1), .val (.ref 14), .val (.int a3), .val (.int a4), .val (.int a5), .val (.int a6)] [.int s0] (hpo X mem sw o e) P
  refine QW.if_eq (tgt := 127) dRd_readSources_120 (by decide) (fun z0 => ?_) (fun z0 => ?_)
  · exact (k1 z0)
  · refine QW.iconst (v := 1) dRd_readSources_123 (by decide) ?_
    refine QW.goto (tgt := 128) dRd_readSources_124 (by decide) ?_
    exact (k2 z0)
theorem bRd_readSources_127 {r1 : Nat} {a3 : Int32} {a4 : Int32} {a5 : Int32} {a6 : Int32} (hX : X.length = 13) (hr1 : kBl r1) (k1 : QW d mRd_readSources 128 (lRd_readSources_128 a3 a4 a5 a6 r1) [.int 0] (hpo X mem sw o e) P) : QW d mRd_readSources 127 (lRd_readSources_127 a3 a4 a5 a6 r1) [] (hpo X mem sw o e) P := by
  show QW d mRd_readSources 127 [.val (.ref 30), .val (.ref r1), .val (.ref 14), .val (.int a3), .val (.int a4), .val (.int a5), .val (.int a6)] [] (hpo X mem sw o e) P
  refine QW.iconst (v := 0) dRd_readSources_127 (by decide) ?_
  exact k1
theorem bRd_readSources_128 {r1 : Nat} {a3 : Int32} {a4 : Int32} {a5 : Int32} {a6 : Int32} {s0 : Int32} (hX : X.length = 13) (hr1 : kBl r1) (k1 : QW d mRd_readSources 5 (lRd_readSources_5 s0 (a4 + 1) (.val (.int a5)) (.val (.int a6)) r1) [] (hpo X mem sw o e) P) : QW d mRd_readSources 128 (lRd_readSources_128 a3 a4 a5 a6 r1) [.int s0] (hpo X mem sw o e) P := by
  show QW d mRd_readSources 128 [.val (.ref 30), .val (.ref r1), .val (.ref 14), .val (.int a3), .val (.int a4), .val (.int a5), .val (.int a6)] [.int s0] (hpo X mem sw o e) P
  refine QW.istore_n (ls' := [.val (.ref 30), .val (.ref r1), .val (.ref 14), .val (.int s0), .val (.int a4), .val (.int a5), .val (.int a6)]) dRd_readSources_128 rfl rfl ?_
  refine MW.iinc (c := 1) (ls' := [.val (.ref 30), .val (.ref r1), .val (.ref 14), .val (.int s0), .val (.int (a4 + 1)), .val (.int a5), .val (.int a6)]) dRd_readSources_129 (by decide) rfl rfl ?_
  refine QW.goto (tgt := 5) dRd_readSources_132 (by decide) ?_
  exact k1
theorem dRd_readConditions_0 : decode mRd_readConditions.2.1 0 = .ok (.iconst 1, 1) := by decide +kernel
theorem dRd_readConditions_1 : decode mRd_readConditions.2.1 1 = .ok (.istore_n 2, 1) := by decide +kernel
theorem dRd_readConditions_2 : decode mRd_readConditions.2.1 2 = .ok (.iconst 0, 1) := by decide +kernel
theorem dRd_readConditions_3 : decode mRd_readConditions.2.1 3 = .ok (.istore_n 3, 1) := by decide +kernel
theorem dRd_readConditions_4 : decode mRd_readConditions.2.1 4 = .ok (.iload_n 3, 1) := by decide +kernel
theorem dRd_readConditions_5 : decode mRd_readConditions.2.1 5 = .ok (.bipush 6, 2) := by decide +kernel
theorem dRd_readConditions_7 : decode mRd_readConditions.2.1 7 = .ok (.if_icmp .ge 115, 3) := by decide +kernel
theorem dRd_readConditions_10 : decode mRd_readConditions.2.1 10 = .ok (.iload_n 2, 1) := by decide +kernel
theorem dRd_readConditions_11 : decode mRd_readConditions.2.1 11 = .ok (.ifCond .eq 111, 3) := by decide +kernel
theorem dRd_readConditions_14 : decode mRd_readConditions.2.1 14 = .ok (.aload_n 0, 1) := by decide +kernel
theorem dRd_readConditions_15 : decode mRd_readConditions.2.1 15 = .ok (.aload_n 1, 1) := by decide +kernel
theorem dRd_readConditions_16 : decode mRd_readConditions.2.1 16 = .ok (.iload_n 3, 1) := by decide +kernel
theorem dRd_readConditions_17 : decode mRd_readConditions.2.1 17 = .ok (.invokestatic 104, 3) := by decide +kernel
theorem dRd_readConditions_20 : decode mRd_readConditions.2.1 20 = .ok (.invokevirtual 84, 3) := by decide +kernel
theorem dRd_readConditions_23 : decode mRd_readConditions.2.1 23 = .ok (.ifCond .ne 5, 3) := by decide +kernel
theorem dRd_readConditions_26 : decode mRd_readConditions.2.1 26 = .ok (.iconst 0, 1) := by decide +kernel
theorem dRd_readConditions_27 : decode mRd_readConditions.2.1 27 = .ok (.ireturn, 1) := by decide +kernel
theorem dRd_readConditions_28 : decode mRd_readConditions.2.1 28 = .ok (.aload_n 1, 1) := by decide +kernel
theorem dRd_readConditions_29 : decode mRd_readConditions.2.1 29 = .ok (.getfield 107, 3) := by decide +kernel
theorem dRd_readConditions_32 : decode mRd_readConditions.2.1 32 = .ok (.iload_n 3, 1) := by decide +kernel
theorem dRd_readConditions_33 : decode mRd_readConditions.2.1 33 = .ok (.aload_n 0, 1) := by decide +kernel
theorem dRd_readConditions_34 : decode mRd_readConditions.2.1 34 = .ok (.getfield 12, 3) := by decide +kernel
theorem dRd_readConditions_37 : decode mRd_readConditions.2.1 37 = .ok (.bipush 60, 2) := by decide +kernel
theorem dRd_readConditions_39 : decode mRd_readConditions.2.1 39 = .ok (.invokevirtual 64, 3) := by decide +kernel
theorem dRd_readConditions_42 : decode mRd_readConditions.2.1 42 = .ok (.bastore, 1) := by decide +kernel
theorem dRd_readConditions_43 : decode mRd_readConditions.2.1 43 = .ok (.aload_n 1, 1) := by decide +kernel
theorem dRd_readConditions_44 : decode mRd_readConditions.2.1 44 = .ok (.getfield 107, 3) := by decide +kernel
theorem dRd_readConditions_47 : decode mRd_readConditions.2.1 47 = .ok (.iload_n 3, 1) := by decide +kernel
theorem dRd_readConditions_48 : decode mRd_readConditions.2.1 48 = .ok (.baload, 1) := by decide +kernel
theorem dRd_readConditions_49 : decode mRd_readConditions.2.1 49 = .ok (.ifCond .ne 17, 3) := by decide +kernel
theorem dRd_readConditions_52 : decode mRd_readConditions.2.1 52 = .ok (.aload_n 0, 1) := by decide +kernel
theorem dRd_readConditions_53 : decode mRd_readConditions.2.1 53 = .ok (.getfield 12, 3) := by decide +kernel
theorem dRd_readConditions_56 : decode mRd_readConditions.2.1 56 = .ok (.bipush 61, 2) := by decide +kernel
theorem dRd_readConditions_58 : decode mRd_readConditions.2.1 58 = .ok (.invokevirtual 64, 3) := by decide +kernel
theorem dRd_readConditions_61 : decode mRd_readConditions.2.1 61 = .ok (.ifCond .ne 5, 3) := by decide +kernel
theorem dRd_readConditions_64 : decode mRd_readConditions.2.1 64 = .ok (.iconst 0, 1) := by decide +kernel
theorem dRd_readConditions_65 : decode mRd_readConditions.2.1 65 = .ok (.ireturn, 1) := by decide +kernel
theorem dRd_readConditions_66 : decode mRd_readConditions.2.1 66 = .ok (.aload_n 0, 1) := by decide +kernel
theorem dRd_readConditions_67 : decode mRd_readConditions.2.1 67 = .ok (.aload_n 1, 1) := by decide +kernel
theorem dRd_readConditions_68 : decode mRd_readConditions.2.1 68 = .ok (.iload_n 3, 1) := by decide +kernel
theorem dRd_readConditions_69 : decode mRd_readConditions.2.1 69 = .ok (.invokestatic 111, 3) := by decide +kernel
theorem dRd_readConditions_72 : decode mRd_readConditions.2.1 72 = .ok (.invokevirtual 84, 3) := by decide +kernel
theorem dRd_readConditions_75 : decode mRd_readConditions.2.1 75 = .ok (.ifCond .ne 5, 3) := by decide +kernel
theorem dRd_readConditions_78 : decode mRd_readConditions.2.1 78 = .ok (.iconst 0, 1) := by decide +kernel
theorem dRd_readConditions_79 : decode mRd_readConditions.2.1 79 = .ok (.ireturn, 1) := by decide +kernel
theorem dRd_readConditions_80 : decode mRd_readConditions.2.1 80 = .ok (.aload_n 1, 1) := by decide +kernel
theorem dRd_readConditions_81 : decode mRd_readConditions.2.1 81 = .ok (.dup, 1) := by decide +kernel
theorem dRd_readConditions_82 : decode mRd_readConditions.2.1 82 = .ok (.getfield 114, 3) := by decide +kernel
theorem dRd_readConditions_85 : decode mRd_readConditions.2.1 85 = .ok (.iconst 1, 1) := by decide +kernel
theorem dRd_readConditions_86 : decode mRd_readConditions.2.1 86 = .ok (.iadd, 1) := by decide +kernel
theorem dRd_readConditions_87 : decode mRd_readConditions.2.1 87 = .ok (.putfield 114, 3) := by decide +kernel
theorem dRd_readConditions_90 : decode mRd_readConditions.2.1 90 = .ok (.iload_n 3, 1) := by decide +kernel
theorem dRd_readConditions_91 : decode mRd_readConditions.2.1 91 = .ok (.iconst 1, 1) := by decide +kernel
theorem dRd_readConditions_92 : decode mRd_readConditions.2.1 92 = .ok (.iadd, 1) := by decide +kernel
theorem dRd_readConditions_93 : decode mRd_readConditions.2.1 93 = .ok (.bipush 6, 2) := by decide +kernel
theorem dRd_readConditions_95 : decode mRd_readConditions.2.1 95 = .ok (.if_icmp .ge 19, 3) := by decide +kernel
theorem dRd_readConditions_98 : decode mRd_readConditions.2.1 98 = .ok (.aload_n 0, 1) := by decide +kernel
theorem dRd_readConditions_99 : decode mRd_readConditions.2.1 99 = .ok (.getfield 12, 3) := by decide +kernel
theorem dRd_readConditions_102 : decode mRd_readConditions.2.1 102 = .ok (.bipush 10, 2) := by decide +kernel
theorem dRd_readConditions_104 : decode mRd_readConditions.2.1 104 = .ok (.invokevirtual 64, 3) := by decide +kernel
theorem dRd_readConditions_107 : decode mRd_readConditions.2.1 107 = .ok (.ifCond .eq 7, 3) := by decide +kernel
theorem dRd_readConditions_110 : decode mRd_readConditions.2.1 110 = .ok (.iconst 1, 1) := by decide +kernel
theorem dRd_readConditions_111 : decode mRd_readConditions.2.1 111 = .ok (.goto 4, 3) := by decide +kernel
theorem dRd_readConditions_114 : decode mRd_readConditions.2.1 114 = .ok (.iconst 0, 1) := by decide +kernel
theorem dRd_readConditions_115 : decode mRd_readConditions.2.1 115 = .ok (.istore_n 2, 1) := by decide +kernel
theorem dRd_readConditions_116 : decode mRd_readConditions.2.1 116 = .ok (.iinc 3 1, 3) := by decide +kernel
theorem dRd_readConditions_119 : decode mRd_readConditions.2.1 119 = .ok (.goto (-115), 3) := by decide +kernel
theorem dRd_readConditions_122 : decode mRd_readConditions.2.1 122 = .ok (.iconst 1, 1) := by decide +kernel
theorem dRd_readConditions_123 : decode mRd_readConditions.2.1 123 = .ok (.ireturn, 1) := by decide +kernel
def lRd_readConditions_4 (a2 : Int32) (a3 : Int32) (r1 : Nat) : List Slot := [.val (.ref 30), .val (.ref r1), .val (.int a2), .val (.int a3)]
def lRd_readConditions_20 (a2 : Int32) (a3 : Int32) (r1 : Nat) : List Slot := [.val (.ref 30), .val (.ref r1), .val (.int a2), .val (.int a3)]
def lRd_readConditions_23 (a2 : Int32) (a3 : Int32) (r1 : Nat) : List Slot := [.val (.ref 30), .val (.ref r1), .val (.int a2), .val (.int a3)]
def lRd_readConditions_42 (a2 : Int32) (a3 : Int32) (r1 : Nat) : List Slot := [.val (.ref 30), .val (.ref r1), .val (.int a2), .val (.int a3)]
def lRd_readConditions_61 (a2 : Int32) (a3 : Int32) (r1 : Nat) : List Slot := [.val (.ref 30), .val (.ref r1), .val (.int a2), .val (.int a3)]
def lRd_readConditions_66 (a2 : Int32) (a3 : Int32) (r1 : Nat) : List Slot := [.val (.ref 30), .val (.ref r1), .val (.int a2), .val (.int a3)]
def lRd_readConditions_72 (a2 : Int32) (a3 : Int32) (r1 : Nat) : List Slot := [.val (.ref 30), .val (.ref r1), .val (.int a2), .val (.int a3)]
def lRd_readConditions_75 (a2 : Int32) (a3 : Int32) (r1 : Nat) : List Slot := [.val (.ref 30), .val (.ref r1), .val (.int a2), .val (.int a3)]
def lRd_readConditions_107 (a2 : Int32) (a3 : Int32) (r1 : Nat) : List Slot := [.val (.ref 30), .val (.ref r1), .val (.int a2), .val (.int a3)]
def lRd_readConditions_114 (a2 : Int32) (a3 : Int32) (r1 : Nat) : List Slot := [.val (.ref 30), .val (.ref r1), .val (.int a2), .val (.int a3)]
def lRd_readConditions_115 (a2 : Int32) (a3 : Int32) (r1 : Nat) : List Slot := [.val (.ref 30), .val (.ref r1), .val (.int a2), .val (.int a3)]
theorem bRd_readConditions_0 {r1 : Nat} (hX : X.length = 13) (hr1 : kBl r1) (k1 : QW d mRd_readConditions 4 (lRd_readConditions_4 1 0 r1) [] (hpo X mem sw o e) P) : QW d mRd_readConditions 0 (qen 4 [.ref 30, .ref r1]) [] (hpo X mem sw o e) P := by
  show QW d mRd_readConditions 0 [.val (.ref 30), .val (.ref r1), .unset, .unset] [] (hpo X mem sw o e) P
  refine QW.iconst (v := 1) dRd_readConditions_0 (by decide) ?_
  refine QW.istore_n (ls' := [.val (.ref 30), .val (.ref r1), .val (.int 1), .unset]) dRd_readConditions_1 rfl rfl ?_
  refine QW.iconst (v := 0) dRd_readConditions_2 (by decide) ?_
  refine QW.istore_n (ls' := [.val (.ref 30), .val (.ref r1), .val (.int 1), .val (.int 0)]) dRd_readConditions_3 rfl rfl ?_
  exact k1
theorem bRd_readConditions_4 {r1 : Nat} {a2 : Int32} {a3 : Int32} (hX : X.length = 13) (hr1 : kBl r1) (k1 : (6 ≤ a3) → P (.inl (some (.int 1)), (hpo X mem sw o e))) (k2 : (¬ 6 ≤ a3) → (a2 = 0) → P (.inl (some (.int 1)), (hpo X mem sw o e))) (k3 : (¬ 6 ≤ a3) → (¬ a2 = 0) → QW d mBl_lowSlot 0 (qen 1 [.int a3]) [] (hpo X mem sw o e) (qcl d mRd_readConditions 17 20 (lRd_readConditions_20 a2 a3 r1) [.ref r1, .ref 30] P)) : QW (d + 1) mRd_readConditions 4 (lRd_readConditions_4 a2 a3 r1) [] (hpo X mem sw o e) P := by
  show QW (d + 1) mRd_readConditions 4 [.val (.ref 30), .val (.ref r1), .val (.int a2), .val (.int a3)] [] (hpo X mem sw o e) P
  refine QW.iload_n dRd_readConditions_4 rfl rfl ?_
  refine QW.bipush (v := 6) dRd_readConditions_5 (by decide) ?_
  refine QW.icmp_ge (tgt := 122) dRd_readConditions_7 (by decide) (fun z0 => ?_) (fun z0 => ?_)
  · refine QW.iconst (v := 1) dRd_readConditions_122 (by decide) ?_
    exact QW.iret dRd_readConditions_123 rfl rfl (k1 z0)
  · refine QW.iload_n dRd_readConditions_10 rfl rfl ?_
    refine QW.if_eq (tgt := 122) dRd_readConditions_11 (by decide) (fun z1 => ?_) (fun z1 => ?_)
    · refine QW.iconst (v := 1) dRd_readConditions_122 (by decide) ?_
      exact QW.iret dRd_readConditions_123 rfl rfl (k2 z0 z1)
    · refine QW.aload_n dRd_readConditions_14 rfl rfl ?_
      refine QW.aload_n dRd_readConditions_15 rfl rfl ?_
      refine QW.iload_n dRd_readConditions_16 rfl rfl ?_
      exact MW.calS (as := [.int a3]) (rest := [.ref r1, .ref 30]) dRd_readConditions_17 eBl_lowSlot lRd_104 sBl_lowSlot rfl rfl rfl (Nat.le_of_ble_eq_true rfl) rfl (k3 z0 z1)
theorem bRd_readConditions_20 {r1 : Nat} {a2 : Int32} {a3 : Int32} {s2 : Int32} (hX : X.length = 13) (hr1 : kBl r1) (k1 : QW d mRd_readValue 0 (qen 5 [.ref 30, .ref r1, .int s2]) [] (hpo X mem sw o e) (qcl d mRd_readConditions 20 23 (lRd_readConditions_23 a2 a3 r1) [] P)) : QW (d + 1) mRd_readConditions 20 (lRd_readConditions_20 a2 a3 r1) [.int s2, .ref r1, .ref 30] (hpo X mem sw o e) P := by
  show QW (d + 1) mRd_readConditions 20 [.val (.ref 30), .val (.ref r1), .val (.int a2), .val (.int a3)] [.int s2, .ref r1, .ref 30] (hpo X mem sw o e) P
  exact MW.calV (as := [.ref r1, .int s2]) (rest := []) hX dRd_readConditions_20 eRd_readValue lRd_84 iRd_readValue vRd_readValue rfl rfl rfl rfl rfl rfl (Nat.le_of_ble_eq_true rfl) rfl k1
theorem bRd_readConditions_23 {r1 : Nat} {a2 : Int32} {a3 : Int32} {s0 : Int32} (hX : X.length = 13) (hr1 : kBl r1) (k1 : (¬ s0 = 0) → QW d mTok_take 0 (qen 2 [.ref 31, .int 60]) [] (hpo X mem sw o e) (qcl d mRd_readConditions 39 42 (lRd_readConditions_42 a2 a3 r1) [.int a3, .ref (r1 + 3)] P)) (k2 : (s0 = 0) → P (.inl (some (.int 0)), (hpo X mem sw o e))) : QW (d + 1) mRd_readConditions 23 (lRd_readConditions_23 a2 a3 r1) [.int s0] (hpo X mem sw o e) P := by
  show QW (d + 1) mRd_readConditions 23 [.val (.ref 30), .val (.ref r1), .val (.int a2), .val (.int a3)] [.int s0] (hpo X mem sw o e) P
  refine QW.if_ne (tgt := 28) dRd_readConditions_23 (by decide) (fun z0 => ?_) (fun z0 => ?_)
  · refine QW.aload_n dRd_readConditions_28 rfl rfl ?_
    refine MW.getr (r' := (r1 + 3)) hX dRd_readConditions_29 fRd_107 (kBl_0 hr1) rfl (kBl_s3 hr1 _) ?_
    refine QW.iload_n dRd_readConditions_32 rfl rfl ?_
    refine QW.aload_n dRd_readConditions_33 rfl rfl ?_
    refine MW.getr (r' := 31) hX dRd_readConditions_34 fRd_12 rfl rfl (by cases sw <;> rfl) ?_
    refine QW.bipush (v := 60) dRd_readConditions_37 (by decide) ?_
    exact MW.calV (as := [.int 60]) (rest := [.int a3, .ref (r1 + 3)]) hX dRd_readConditions_39 eTok_take lRd_64 iTok_take vTok_take rfl rfl rfl rfl rfl rfl (Nat.le_of_ble_eq_true rfl) rfl (k1 z0)
  · refine QW.iconst (v := 0) dRd_readConditions_26 (by decide) ?_
    exact QW.iret dRd_readConditions_27 rfl rfl (k2 z0)
theorem bRd_readConditions_42 {r1 : Nat} {a2 : Int32} {a3 : Int32} {s2 : Int32} {s1 : Int32} (hX : X.length = 13) (hr1 : kBl r1) (h1 : inx s1 6) (h2 : narrow .boolean (.int s2) = .int s2) (h3 : inx a3 6) (k4 : (¬ ((mup mem (r1 + 3) (Int32.toNatClampNeg s1) s2) (r1 + 3) (Int32.toNatClampNeg a3)) = 0) → QW (d + 1) mRd_readConditions 66 (lRd_readConditions_66 a2 a3 r1) [] (hpo X (mup mem (r1 + 3) (Int32.toNatClampNeg s1) s2) sw o e) P) (k5 : (((mup mem (r1 + 3) (Int32.toNatClampNeg s1) s2) (r1 + 3) (Int32.toNatClampNeg a3)) = 0) → QW d mTok_take 0 (qen 2 [.ref 31, .int 61]) [] (hpo X (mup mem (r1 + 3) (Int32.toNatClampNeg s1) s2) sw o e) (qcl d mRd_readConditions 58 61 (lRd_readConditions_61 a2 a3 r1) [] P)) : QW (d + 1) mRd_readConditions 42 (lRd_readConditions_42 a2 a3 r1) [.int s2, .int s1, .ref (r1 + 3)] (hpo X mem sw o e) P := by
  show QW (d + 1) mRd_readConditions 42 [.val (.ref 30), .val (.ref r1), .val (.int a2), .val (.int a3)] [.int s2, .int s1, .ref (r1 + 3)] (hpo X mem sw o e) P
  refine MW.zast hX dRd_readConditions_42 (kBl_3 hr1) h1.1 (rep_get h1.2) h2 ?_
  refine QW.aload_n dRd_readConditions_43 rfl rfl ?_
  refine MW.getr (r' := (r1 + 3)) hX dRd_readConditions_44 fRd_107 (kBl_0 hr1) rfl (kBl_s3 hr1 _) ?_
  refine QW.iload_n dRd_readConditions_47 rfl rfl ?_
  refine MW.zald hX dRd_readConditions_48 (kBl_3 hr1) h3.1 (rep_get h3.2) ?_
  refine QW.if_ne (tgt := 66) dRd_readConditions_49 (by decide) (fun z0 => ?_) (fun z0 => ?_)
  · exact (k4 z0)
  · refine QW.aload_n dRd_readConditions_52 rfl rfl ?_
    refine MW.getr (r' := 31) hX dRd_readConditions_53 fRd_12 rfl rfl (by cases sw <;> rfl) ?_
    refine QW.bipush (v := 61) dRd_readConditions_56 (by decide) ?_
    exact MW.calV (as := [.int 61]) (rest := []) hX dRd_readConditions_58 eTok_take lRd_64 iTok_take vTok_take rfl rfl rfl rfl rfl rfl (Nat.le_of_ble_eq_true rfl) rfl (k5 z0)
theorem bRd_readConditions_61 {r1 : Nat} {a2 : Int32} {a3 : Int32} {s0 : Int32} (hX : X.length = 13) (hr1 : kBl r1) (k1 : (¬ s0 = 0) → QW d mRd_readConditions 66 (lRd_readConditions_66 a2 a3 r1) [] (hpo X mem sw o e) P) (k2 : (s0 = 0) → P (.inl (some (.int 0)), (hpo X mem sw o e))) : QW d mRd_readConditions 61 (lRd_readConditions_61 a2 a3 r1) [.int s0] (hpo X mem sw o e) P := by
  show QW d mRd_readConditions 61 [.val (.ref 30), .val (.ref r1), .val (.int a2), .val (.int a3)] [.int s0] (hpo X mem sw o e) P
  refine QW.if_ne (tgt := 66) dRd_readConditions_61 (by decide) (fun z0 => ?_) (fun z0 => ?_)
  · exact (k1 z0)
  · refine QW.iconst (v := 0) dRd_readConditions_64 (by decide) ?_
    exact QW.iret dRd_readConditions_65 rfl rfl (k2 z0)
theorem bRd_readConditions_66 {r1 : Nat} {a2 : Int32} {a3 : Int32} (hX : X.length = 13) (hr1 : kBl r1) (k1 : QW d mBl_highSlot 0 (qen 1 [.int a3]) [] (hpo X mem sw o e) (qcl d mRd_readConditions 69 72 (lRd_readConditions_72 a2 a3 r1) [.ref r1, .ref 30] P)) : QW (d + 1) mRd_readConditions 66 (lRd_readConditions_66 a2 a3 r1) [] (hpo X mem sw o e) P := by
  show QW (d + 1) mRd_readConditions 66 [.val (.ref 30), .val (.ref r1), .val (.int a2), .val (.int a3)] [] (hpo X mem sw o e) P
  refine QW.aload_n dRd_readConditions_66 rfl rfl ?_
  refine QW.aload_n dRd_readConditions_67 rfl rfl ?_
  refine QW.iload_n dRd_readConditions_68 rfl rfl ?_
  exact MW.calS (as := [.int a3]) (rest := [.ref r1, .ref 30]) dRd_readConditions_69 eBl_highSlot lRd_111 sBl_highSlot rfl rfl rfl (Nat.le_of_ble_eq_true rfl) rfl k1
theorem bRd_readConditions_72 {r1 : Nat} {a2 : Int32} {a3 : Int32} {s2 : Int32} (hX : X.length = 13) (hr1 : kBl r1) (k1 : QW d mRd_readValue 0 (qen 5 [.ref 30, .ref r1, .int s2]) [] (hpo X mem sw o e) (qcl d mRd_readConditions 72 75 (lRd_readConditions_75 a2 a3 r1) [] P)) : QW (d + 1) mRd_readConditions 72 (lRd_readConditions_72 a2 a3 r1) [.int s2, .ref r1, .ref 30] (hpo X mem sw o e) P := by
  show QW (d + 1) mRd_readConditions 72 [.val (.ref 30), .val (.ref r1), .val (.int a2), .val (.int a3)] [.int s2, .ref r1, .ref 30] (hpo X mem sw o e) P
  exact MW.calV (as := [.ref r1, .int s2]) (rest := []) hX dRd_readConditions_72 eRd_readValue lRd_84 iRd_readValue vRd_readValue rfl rfl rfl rfl rfl rfl (Nat.le_of_ble_eq_true rfl) rfl k1
theorem bRd_readConditions_75 {r1 : Nat} {a2 : Int32} {a3 : Int32} {s0 : Int32} (hX : X.length = 13) (hr1 : kBl r1) (k1 : (¬ s0 = 0) → (6 ≤ (a3 + 1)) → QW (d + 1) mRd_readConditions 114 (lRd_readConditions_114 a2 a3 r1) [] (hpo X (mup mem r1 3 ((mem r1 3) + 1)) sw o e) P) (k2 : (¬ s0 = 0) → (¬ 6 ≤ (a3 + 1)) → QW d mTok_take 0 (qen 2 [.ref 31, .int 10]) [] (hpo X (mup mem r1 3 ((mem r1 3) + 1)) sw o e) (qcl d mRd_readConditions 104 107 (lRd_readConditions_107 a2 a3 r1) [] P)) (k3 : (s0 = 0) → P (.inl (some (.int 0)), (hpo X mem sw o e))) : QW (d + 1) mRd_readConditions 75 (lRd_readConditions_75 a2 a3 r1) [.int s0] (hpo X mem sw o e) P := by
  show QW (d + 1) mRd_readConditions 75 [.val (.ref 30), .val (.ref r1), .val (.int a2), .val (.int a3)] [.int s0] (hpo X mem sw o e) P
  refine QW.if_ne (tgt := 80) dRd_readConditions_75 (by decide) (fun z0 => ?_) (fun z0 => ?_)
  · refine QW.aload_n dRd_readConditions_80 rfl rfl ?_
    refine QW.dup dRd_readConditions_81 rfl ?_
    refine MW.geti hX dRd_readConditions_82 fRd_114 (kBl_0 hr1) rfl ?_
    refine QW.iconst (v := 1) dRd_readConditions_85 (by decide) ?_
    refine QW.iadd dRd_readConditions_86 ?_
    refine MW.puti hX dRd_readConditions_87 fRd_114 (kBl_0 hr1) rfl rfl ?_
    refine QW.iload_n dRd_readConditions_90 rfl rfl ?_
    refine QW.iconst (v := 1) dRd_readConditions_91 (by decide) ?_
    refine QW.iadd dRd_readConditions_92 ?_
    refine QW.bipush (v := 6) dRd_readConditions_93 (by decide) ?_
    refine QW.icmp_ge (tgt := 114) dRd_readConditions_95 (by decide) (fun z1 => ?_) (fun z1 => ?_)
    · exact (k1 z0 z1)
    · refine QW.aload_n dRd_readConditions_98 rfl rfl ?_
      refine MW.getr (r' := 31) hX dRd_readConditions_99 fRd_12 rfl rfl (by cases sw <;> rfl) ?_
      refine QW.bipush (v := 10) dRd_readConditions_102 (by decide) ?_
      exact MW.calV (as := [.int 10]) (rest := []) hX dRd_readConditions_104 eTok_take lRd_64 iTok_take vTok_take rfl rfl rfl rfl rfl rfl (Nat.le_of_ble_eq_true rfl) rfl (k2 z0 z1)
  · refine QW.iconst (v := 0) dRd_readConditions_78 (by decide) ?_
    exact QW.iret dRd_readConditions_79 rfl rfl (k3 z0)
theorem bRd_readConditions_107 {r1 : Nat} {a2 : Int32} {a3 : Int32} {s0 : Int32} (hX : X.length = 13) (hr1 : kBl r1) (k1 : (s0 = 0) → QW d mRd_readConditions 114 (lRd_readConditions_114 a2 a3 r1) [] (hpo X mem sw o e) P) (k2 : (¬ s0 = 0) → QW d mRd_readConditions 115 (lRd_readConditions_115 a2 a3 r1) [.int 1] (hpo X mem sw o e) P) : QW d mRd_readConditions 107 (lRd_readConditions_107 a2 a3 r1) [.int s0] (hpo X mem sw o e) P := by
  show QW d mRd_readConditions 107 [.val (.ref 30), .val (.ref r1), .val (.int a2), .val (.int a3)] [.int s0] (hpo X mem sw o e) P
  refine QW.if_eq (tgt := 114) dRd_readConditions_107 (by decide) (fun z0 => ?_) (fun z0 => ?_)
  · exact (k1 z0)
  · refine QW.iconst (v := 1) dRd_readConditions_110 (by decide) ?_
    refine QW.goto (tgt := 115) dRd_readConditions_111 (by decide) ?_
    exact (k2 z0)
theorem bRd_readConditions_114 {r1 : Nat} {a2 : Int32} {a3 : Int32} (hX : X.length = 13) (hr1 : kBl r1) (k1 : QW d mRd_readConditions 115 (lRd_readConditions_115 a2 a3 r1) [.int 0] (hpo X mem sw o e) P) : QW d mRd_readConditions 114 (lRd_readConditions_114 a2 a3 r1) [] (hpo X mem sw o e) P := by
  show QW d mRd_readConditions 114 [.val (.ref 30), .val (.ref r1), .val (.int a2), .val (.int a3)] [] (hpo X mem sw o e) P
  refine QW.iconst (v := 0) dRd_readConditions_114 (by decide) ?_
  exact k1
theorem bRd_readConditions_115 {r1 : Nat} {a2 : Int32} {a3 : Int32} {s0 : Int32} (hX : X.length = 13) (hr1 : kBl r1) (k1 : QW d mRd_readConditions 4 (lRd_readConditions_4 s0 (a3 + 1) r1) [] (hpo X mem sw o e) P) : QW d mRd_readConditions 115 (lRd_readConditions_115 a2 a3 r1) [.int s0] (hpo X mem sw o e) P := by
  show QW d mRd_readConditions 115 [.val (.ref 30), .val (.ref r1), .val (.int a2), .val (.int a3)] [.int s0] (hpo X mem sw o e) P
  refine QW.istore_n (ls' := [.val (.ref 30), .val (.ref r1), .val (.int s0), .val (.int a3)]) dRd_readConditions_115 rfl rfl ?_
  refine MW.iinc (c := 1) (ls' := [.val (.ref 30), .val (.ref r1), .val (.int s0), .val (.int (a3 + 1))]) dRd_readConditions_116 (by decide) rfl rfl ?_
  refine QW.goto (tgt := 4) dRd_readConditions_119 (by decide) ?_
  exact k1
theorem dRd_readValue_0 : decode mRd_readValue.2.1 0 = .ok (.aload_n 0, 1) := by decide +kernel
theorem dRd_readValue_1 : decode mRd_readValue.2.1 1 = .ok (.getfield 12, 3) := by decide +kernel
theorem dRd_readValue_4 : decode mRd_readValue.2.1 4 = .ok (.bipush 45, 2) := by decide +kernel
theorem dRd_readValue_6 : decode mRd_readValue.2.1 6 = .ok (.invokevirtual 64, 3) := by decide +kernel
theorem dRd_readValue_9 : decode mRd_readValue.2.1 9 = .ok (.istore_n 3, 1) := by decide +kernel
theorem dRd_readValue_10 : decode mRd_readValue.2.1 10 = .ok (.aload_n 0, 1) := by decide +kernel
theorem dRd_readValue_11 : decode mRd_readValue.2.1 11 = .ok (.getfield 12, 3) := by decide +kernel
theorem dRd_readValue_14 : decode mRd_readValue.2.1 14 = .ok (.invokevirtual 88, 3) := by decide +kernel
theorem dRd_readValue_17 : decode mRd_readValue.2.1 17 = .ok (.istore 4, 2) := by decide +kernel
theorem dRd_readValue_19 : decode mRd_readValue.2.1 19 = .ok (.aload_n 0, 1) := by decide +kernel
theorem dRd_readValue_20 : decode mRd_readValue.2.1 20 = .ok (.getfield 12, 3) := by decide +kernel
theorem dRd_readValue_23 : decode mRd_readValue.2.1 23 = .ok (.iconst 5, 1) := by decide +kernel
theorem dRd_readValue_24 : decode mRd_readValue.2.1 24 = .ok (.invokevirtual 64, 3) := by decide +kernel
theorem dRd_readValue_27 : decode mRd_readValue.2.1 27 = .ok (.ifCond .eq 22, 3) := by decide +kernel
theorem dRd_readValue_30 : decode mRd_readValue.2.1 30 = .ok (.aload_n 1, 1) := by decide +kernel
theorem dRd_readValue_31 : decode mRd_readValue.2.1 31 = .ok (.iload_n 2, 1) := by decide +kernel
theorem dRd_readValue_32 : decode mRd_readValue.2.1 32 = .ok (.iload_n 3, 1) := by decide +kernel
theorem dRd_readValue_33 : decode mRd_readValue.2.1 33 = .ok (.ifCond .eq 9, 3) := by decide +kernel
theorem dRd_readValue_36 : decode mRd_readValue.2.1 36 = .ok (.iload 4, 2) := by decide +kernel
theorem dRd_readValue_38 : decode mRd_readValue.2.1 38 = .ok (.ineg, 1) := by decide +kernel
theorem dRd_readValue_39 : decode mRd_readValue.2.1 39 = .ok (.goto 5, 3) := by decide +kernel
theorem dRd_readValue_42 : decode mRd_readValue.2.1 42 = .ok (.iload 4, 2) := by decide +kernel
theorem dRd_readValue_44 : decode mRd_readValue.2.1 44 = .ok (.invokevirtual 117, 3) := by decide +kernel
theorem dRd_readValue_47 : decode mRd_readValue.2.1 47 = .ok (.iconst 1, 1) := by decide +kernel
theorem dRd_readValue_48 : decode mRd_readValue.2.1 48 = .ok (.ireturn, 1) := by decide +kernel
theorem dRd_readValue_49 : decode mRd_readValue.2.1 49 = .ok (.iload_n 3, 1) := by decide +kernel
theorem dRd_readValue_50 : decode mRd_readValue.2.1 50 = .ok (.ifCond .ne 26, 3) := by decide +kernel
theorem dRd_readValue_53 : decode mRd_readValue.2.1 53 = .ok (.aload_n 0, 1) := by decide +kernel
theorem dRd_readValue_54 : decode mRd_readValue.2.1 54 = .ok (.getfield 12, 3) := by decide +kernel
theorem dRd_readValue_57 : decode mRd_readValue.2.1 57 = .ok (.iconst 3, 1) := by decide +kernel
theorem dRd_readValue_58 : decode mRd_readValue.2.1 58 = .ok (.invokevirtual 64, 3) := by decide +kernel
theorem dRd_readValue_61 : decode mRd_readValue.2.1 61 = .ok (.ifCond .eq 15, 3) := by decide +kernel
theorem dRd_readValue_64 : decode mRd_readValue.2.1 64 = .ok (.aload_n 0, 1) := by decide +kernel
theorem dRd_readValue_65 : decode mRd_readValue.2.1 65 = .ok (.getfield 12, 3) := by decide +kernel
theorem dRd_readValue_68 : decode mRd_readValue.2.1 68 = .ok (.bipush 46, 2) := by decide +kernel
theorem dRd_readValue_70 : decode mRd_readValue.2.1 70 = .ok (.invokevirtual 64, 3) := by decide +kernel
theorem dRd_readValue_73 : decode mRd_readValue.2.1 73 = .ok (.ifCond .ne 5, 3) := by decide +kernel
theorem dRd_readValue_76 : decode mRd_readValue.2.1 76 = .ok (.iconst 0, 1) := by decide +kernel
theorem dRd_readValue_77 : decode mRd_readValue.2.1 77 = .ok (.ireturn, 1) := by decide +kernel
theorem dRd_readValue_78 : decode mRd_readValue.2.1 78 = .ok (.aload_n 1, 1) := by decide +kernel
theorem dRd_readValue_79 : decode mRd_readValue.2.1 79 = .ok (.iload_n 2, 1) := by decide +kernel
theorem dRd_readValue_80 : decode mRd_readValue.2.1 80 = .ok (.iload 4, 2) := by decide +kernel
theorem dRd_readValue_82 : decode mRd_readValue.2.1 82 = .ok (.aload_n 0, 1) := by decide +kernel
theorem dRd_readValue_83 : decode mRd_readValue.2.1 83 = .ok (.getfield 12, 3) := by decide +kernel
theorem dRd_readValue_86 : decode mRd_readValue.2.1 86 = .ok (.invokevirtual 88, 3) := by decide +kernel
theorem dRd_readValue_89 : decode mRd_readValue.2.1 89 = .ok (.invokevirtual 120, 3) := by decide +kernel
theorem dRd_readValue_92 : decode mRd_readValue.2.1 92 = .ok (.aload_n 0, 1) := by decide +kernel
theorem dRd_readValue_93 : decode mRd_readValue.2.1 93 = .ok (.getfield 12, 3) := by decide +kernel
theorem dRd_readValue_96 : decode mRd_readValue.2.1 96 = .ok (.iconst 5, 1) := by decide +kernel
theorem dRd_readValue_97 : decode mRd_readValue.2.1 97 = .ok (.invokevirtual 64, 3) := by decide +kernel
theorem dRd_readValue_100 : decode mRd_readValue.2.1 100 = .ok (.ireturn, 1) := by decide +kernel
def lRd_readValue_9 (a2 : Int32) (r1 : Nat) : List Slot := [.val (.ref 30), .val (.ref r1), .val (.int a2), .unset, .unset]
def lRd_readValue_17 (a2 : Int32) (a3 : Int32) (r1 : Nat) : List Slot := [.val (.ref 30), .val (.ref r1), .val (.int a2), .val (.int a3), .unset]
def lRd_readValue_27 (a2 : Int32) (a3 : Int32) (a4 : Int32) (r1 : Nat) : List Slot := [.val (.ref 30), .val (.ref r1), .val (.int a2), .val (.int a3), .val (.int a4)]
def lRd_readValue_44 (a2 : Int32) (a3 : Int32) (a4 : Int32) (r1 : Nat) : List Slot := [.val (.ref 30), .val (.ref r1), .val (.int a2), .val (.int a3), .val (.int a4)]
def lRd_readValue_47 (a2 : Int32) (a3 : Int32) (a4 : Int32) (r1 : Nat) : List Slot := [.val (.ref 30), .val (.ref r1), .val (.int a2), .val (.int a3), .val (.int a4)]
def lRd_readValue_61 (a2 : Int32) (a3 : Int32) (a4 : Int32) (r1 : Nat) : List Slot := [.val (.ref 30), .val (.ref r1), .val (.int a2), .val (.int a3), .val (.int a4)]
def lRd_readValue_73 (a2 : Int32) (a3 : Int32) (a4 : Int32) (r1 : Nat) : List Slot := [.val (.ref 30), .val (.ref r1), .val (.int a2), .val (.int a3), .val (.int a4)]
def lRd_readValue_89 (a2 : Int32) (a3 : Int32) (a4 : Int32) (r1 : Nat) : List Slot := [.val (.ref 30), .val (.ref r1), .val (.int a2), .val (.int a3), .val (.int a4)]
def lRd_readValue_92 (a2 : Int32) (a3 : Int32) (a4 : Int32) (r1 : Nat) : List Slot := [.val (.ref 30), .val (.ref r1), .val (.int a2), .val (.int a3), .val (.int a4)]
def lRd_readValue_100 (a2 : Int32) (a3 : Int32) (a4 : Int32) (r1 : Nat) : List Slot := [.val (.ref 30), .val (.ref r1), .val (.int a2), .val (.int a3), .val (.int a4)]
theorem bRd_readValue_0 {r1 : Nat} {a2 : Int32} (hX : X.length = 13) (hr1 : kBl r1) (k1 : QW d mTok_take 0 (qen 2 [.ref 31, .int 45]) [] (hpo X mem sw o e) (qcl d mRd_readValue 6 9 (lRd_readValue_9 a2 r1) [] P)) : QW (d + 1) mRd_readValue 0 (qen 5 [.ref 30, .ref r1, .int a2]) [] (hpo X mem sw o e) P := by
  show QW (d + 1) mRd_readValue 0 [.val (.ref 30), .val (.ref r1), .val (.int a2), .unset, .unset] [] (hpo X mem sw o e) P
  refine QW.aload_n dRd_readValue_0 rfl rfl ?_
  refine MW.getr (r' := 31) hX dRd_readValue_1 fRd_12 rfl rfl (by cases sw <;> rfl) ?_
  refine QW.bipush (v := 45) dRd_readValue_4 (by decide) ?_
  exact MW.calV (as := [.int 45]) (rest := []) hX dRd_readValue_6 eTok_take lRd_64 iTok_take vTok_take rfl rfl rfl rfl rfl rfl (Nat.le_of_ble_eq_true rfl) rfl k1
theorem bRd_readValue_9 {r1 : Nat} {a2 : Int32} {s0 : Int32} (hX : X.length = 13) (hr1 : kBl r1) (k1 : QW d mTok_value 0 (qen 1 [.ref 31]) [] (hpo X mem sw o e) (qcl d mRd_readValue 14 17 (lRd_readValue_17 a2 s0 r1) [] P)) : QW (d + 1) mRd_readValue 9 (lRd_readValue_9 a2 r1) [.int s0] (hpo X mem sw o e) P := by
  show QW (d + 1) mRd_readValue 9 [.val (.ref 30), .val (.ref r1), .val (.int a2), .unset, .unset] [.int s0] (hpo X mem sw o e) P
  refine QW.istore_n (ls' := [.val (.ref 30), .val (.ref r1), .val (.int a2), .val (.int s0), .unset]) dRd_readValue_9 rfl rfl ?_
  refine QW.aload_n dRd_readValue_10 rfl rfl ?_
  refine MW.getr (r' := 31) hX dRd_readValue_11 fRd_12 rfl rfl (by cases sw <;> rfl) ?_
  exact MW.calV (as := []) (rest := []) hX dRd_readValue_14 eTok_value lRd_88 iTok_value vTok_value rfl rfl rfl rfl rfl rfl (Nat.le_of_ble_eq_true rfl) rfl k1
theorem bRd_readValue_17 {r1 : Nat} {a2 : Int32} {a3 : Int32} {s0 : Int32} (hX : X.length = 13) (hr1 : kBl r1) (k1 : QW d mTok_take 0 (qen 2 [.ref 31, .int 5]) [] (hpo X mem sw o e) (qcl d mRd_readValue 24 27 (lRd_readValue_27 a2 a3 s0 r1) [] P)) : QW (d + 1) mRd_readValue 17 (lRd_readValue_17 a2 a3 r1) [.int s0] (hpo X mem sw o e) P := by
  show QW (d + 1) mRd_readValue 17 [.val (.ref 30), .val (.ref r1), .val (.int a2), .val (.int a3), .unset] [.int s0] (hpo X mem sw o e) P
  refine QW.istore (ls' := [.val (.ref 30), .val (.ref r1), .val (.int a2), .val (.int a3), .val (.int s0)]) dRd_readValue_17 rfl ?_
  refine QW.aload_n dRd_readValue_19 rfl rfl ?_
  refine MW.getr (r' := 31) hX dRd_readValue_20 fRd_12 rfl rfl (by cases sw <;> rfl) ?_
  refine QW.iconst (v := 5) dRd_readValue_23 (by decide) ?_
  exact MW.calV (as := [.int 5]) (rest := []) hX dRd_readValue_24 eTok_take lRd_64 iTok_take vTok_take rfl rfl rfl rfl rfl rfl (Nat.le_of_ble_eq_true rfl) rfl k1
theorem bRd_readValue_27 {r1 : Nat} {a2 : Int32} {a3 : Int32} {a4 : Int32} {s0 : Int32} (hX : X.length = 13) (hr1 : kBl r1) (k1 : (s0 = 0) → (¬ a3 = 0) → P (.inl (some (.int 0)), (hpo X mem sw o e))) (k2 : (s0 = 0) → (a3 = 0) → QW d mTok_take 0 (qen 2 [.ref 31, .int 3]) [] (hpo X mem sw o e) (qcl d mRd_readValue 58 61 (lRd_readValue_61 a2 a3 a4 r1) [] P)) (k3 : (¬ s0 = 0) → (a3 = 0) → QW (d + 1) mRd_readValue 44 (lRd_readValue_44 a2 a3 a4 r1) [.int a4, .int a2, .ref r1] (hpo X mem sw o e) P) (k4 : (¬ s0 = 0) → (¬ a3 = 0) → QW (d + 1) mRd_readValue 44 (lRd_readValue_44 a2 a3 a4 r1) [.int (-a4), .int a2, .ref r1] (hpo X mem sw o e) P) : QW (d + 1) mRd_readValue 27 (lRd_readValue_27 a2 a3 a4 r1) [.int s0] (hpo X mem sw o e) P := by
  show QW (d + 1) mRd_readValue 27 [.val (.ref 30), .val (.ref r1), .val (.int a2), .val (.int a3), .val (.int a4)] [.int s0] (hpo X mem sw o e) P
  refine QW.if_eq (tgt := 49) dRd_readValue_27 (by decide) (fun z0 => ?_) (fun z0 => ?_)
  · refine QW.iload_n dRd_readValue_49 rfl rfl ?_
    refine QW.if_ne (tgt := 76) dRd_readValue_50 (by decide) (fun z1 => ?_) (fun z1 => ?_)
    · refine QW.iconst (v := 0) dRd_readValue_76 (by decide) ?_
      exact QW.iret dRd_readValue_77 rfl rfl (k1 z0 z1)
    · refine QW.aload_n dRd_readValue_53 rfl rfl ?_
      refine MW.getr (r' := 31) hX dRd_readValue_54 fRd_12 rfl rfl (by cases sw <;> rfl) ?_
      refine QW.iconst (v := 3) dRd_readValue_57 (by decide) ?_
      exact MW.calV (as := [.int 3]) (rest := []) hX dRd_readValue_58 eTok_take lRd_64 iTok_take vTok_take rfl rfl rfl rfl rfl rfl (Nat.le_of_ble_eq_true rfl) rfl (k2 z0 z1)
  · refine QW.aload_n dRd_readValue_30 rfl rfl ?_
    refine QW.iload_n dRd_readValue_31 rfl rfl ?_
    refine QW.iload_n dRd_readValue_32 rfl rfl ?_
    refine QW.if_eq (tgt := 42) dRd_readValue_33 (by decide) (fun z1 => ?_) (fun z1 => ?_)
    · refine QW.iload dRd_readValue_42 rfl ?_
      exact (k3 z0 z1)
    · refine QW.iload dRd_readValue_36 rfl ?_
      refine QW.ineg dRd_readValue_38 ?_
      refine QW.goto (tgt := 44) dRd_readValue_39 (by decide) ?_
      exact (k4 z0 z1)
theorem bRd_readValue_44 {r1 : Nat} {a2 : Int32} {a3 : Int32} {a4 : Int32} {s2 : Int32} {s1 : Int32} (hX : X.length = 13) (hr1 : kBl r1) (k1 : QW d mBl_putNumber 0 (qen 3 [.ref r1, .int s1, .int s2]) [] (hpo X mem sw o e) (qcl d mRd_readValue 44 47 (lRd_readValue_47 a2 a3 a4 r1) [] P)) : QW (d + 1) mRd_readValue 44 (lRd_readValue_44 a2 a3 a4 r1) [.int s2, .int s1, .ref r1] (hpo X mem sw o e) P := by
  show QW (d + 1) mRd_readValue 44 [.val (.ref 30), .val (.ref r1), .val (.int a2), .val (.int a3), .val (.int a4)] [.int s2, .int s1, .ref r1] (hpo X mem sw o e) P
  exact MW.calV (as := [.int s1, .int s2]) (rest := []) hX dRd_readValue_44 eBl_putNumber lRd_117 iBl_putNumber vBl_putNumber rfl rfl (kBl_0 hr1) rfl rfl rfl (Nat.le_of_ble_eq_true rfl) rfl k1
theorem bRd_readValue_47 {r1 : Nat} {a2 : Int32} {a3 : Int32} {a4 : Int32} (hX : X.length = 13) (hr1 : kBl r1) (k1 : P (.inl (some (.int 1)), (hpo X mem sw o e))) : QW d mRd_readValue 47 (lRd_readValue_47 a2 a3 a4 r1) [] (hpo X mem sw o e) P := by
  show QW d mRd_readValue 47 [.val (.ref 30), .val (.ref r1), .val (.int a2), .val (.int a3), .val (.int a4)] [] (hpo X mem sw o e) P
  refine QW.iconst (v := 1) dRd_readValue_47 (by decide) ?_
  exact QW.iret dRd_readValue_48 rfl rfl k1
theorem bRd_readValue_61 {r1 : Nat} {a2 : Int32} {a3 : Int32} {a4 : Int32} {s0 : Int32} (hX : X.length = 13) (hr1 : kBl r1) (k1 : (s0 = 0) → P (.inl (some (.int 0)), (hpo X mem sw o e))) (k2 : (¬ s0 = 0) → QW d mTok_take 0 (qen 2 [.ref 31, .int 46]) [] (hpo X mem sw o e) (qcl d mRd_readValue 70 73 (lRd_readValue_73 a2 a3 a4 r1) [] P)) : QW (d + 1) mRd_readValue 61 (lRd_readValue_61 a2 a3 a4 r1) [.int s0] (hpo X mem sw o e) P := by
  show QW (d + 1) mRd_readValue 61 [.val (.ref 30), .val (.ref r1), .val (.int a2), .val (.int a3), .val (.int a4)] [.int s0] (hpo X mem sw o e) P
  refine QW.if_eq (tgt := 76) dRd_readValue_61 (by decide) (fun z0 => ?_) (fun z0 => ?_)
  · refine QW.iconst (v := 0) dRd_readValue_76 (by decide) ?_
    exact QW.iret dRd_readValue_77 rfl rfl (k1 z0)
  · refine QW.aload_n dRd_readValue_64 rfl rfl ?_
    refine MW.getr (r' := 31) hX dRd_readValue_65 fRd_12 rfl rfl (by cases sw <;> rfl) ?_
    refine QW.bipush (v := 46) dRd_readValue_68 (by decide) ?_
    exact MW.calV (as := [.int 46]) (rest := []) hX dRd_readValue_70 eTok_take lRd_64 iTok_take vTok_take rfl rfl rfl rfl rfl rfl (Nat.le_of_ble_eq_true rfl) rfl (k2 z0)
theorem bRd_readValue_73 {r1 : Nat} {a2 : Int32} {a3 : Int32} {a4 : Int32} {s0 : Int32} (hX : X.length = 13) (hr1 : kBl r1) (k1 : (¬ s0 = 0) → QW d mTok_value 0 (qen 1 [.ref 31]) [] (hpo X mem sw o e) (qcl d mRd_readValue 86 89 (lRd_readValue_89 a2 a3 a4 r1) [.int a4, .int a2, .ref r1] P)) (k2 : (s0 = 0) → P (.inl (some (.int 0)), (hpo X mem sw o e))) : QW (d + 1) mRd_readValue 73 (lRd_readValue_73 a2 a3 a4 r1) [.int s0] (hpo X mem sw o e) P := by
  show QW (d + 1) mRd_readValue 73 [.val (.ref 30), .val (.ref r1), .val (.int a2), .val (.int a3), .val (.int a4)] [.int s0] (hpo X mem sw o e) P
  refine QW.if_ne (tgt := 78) dRd_readValue_73 (by decide) (fun z0 => ?_) (fun z0 => ?_)
  · refine QW.aload_n dRd_readValue_78 rfl rfl ?_
    refine QW.iload_n dRd_readValue_79 rfl rfl ?_
    refine QW.iload dRd_readValue_80 rfl ?_
    refine QW.aload_n dRd_readValue_82 rfl rfl ?_
    refine MW.getr (r' := 31) hX dRd_readValue_83 fRd_12 rfl rfl (by cases sw <;> rfl) ?_
    exact MW.calV (as := []) (rest := [.int a4, .int a2, .ref r1]) hX dRd_readValue_86 eTok_value lRd_88 iTok_value vTok_value rfl rfl rfl rfl rfl rfl (Nat.le_of_ble_eq_true rfl) rfl (k1 z0)
  · refine QW.iconst (v := 0) dRd_readValue_76 (by decide) ?_
    exact QW.iret dRd_readValue_77 rfl rfl (k2 z0)
theorem bRd_readValue_89 {r1 : Nat} {a2 : Int32} {a3 : Int32} {a4 : Int32} {s3 : Int32} {s2 : Int32} {s1 : Int32} (hX : X.length = 13) (hr1 : kBl r1) (k1 : QW d mBl_putColumn 0 (qen 4 [.ref r1, .int s1, .int s2, .int s3]) [] (hpo X mem sw o e) (qcl d mRd_readValue 89 92 (lRd_readValue_92 a2 a3 a4 r1) [] P)) : QW (d + 1) mRd_readValue 89 (lRd_readValue_89 a2 a3 a4 r1) [.int s3, .int s2, .int s1, .ref r1] (hpo X mem sw o e) P := by
  show QW (d + 1) mRd_readValue 89 [.val (.ref 30), .val (.ref r1), .val (.int a2), .val (.int a3), .val (.int a4)] [.int s3, .int s2, .int s1, .ref r1] (hpo X mem sw o e) P
  exact MW.calV (as := [.int s1, .int s2, .int s3]) (rest := []) hX dRd_readValue_89 eBl_putColumn lRd_120 iBl_putColumn vBl_putColumn rfl rfl (kBl_0 hr1) rfl rfl rfl (Nat.le_of_ble_eq_true rfl) rfl k1
theorem bRd_readValue_92 {r1 : Nat} {a2 : Int32} {a3 : Int32} {a4 : Int32} (hX : X.length = 13) (hr1 : kBl r1) (k1 : QW d mTok_take 0 (qen 2 [.ref 31, .int 5]) [] (hpo X mem sw o e) (qcl d mRd_readValue 97 100 (lRd_readValue_100 a2 a3 a4 r1) [] P)) : QW (d + 1) mRd_readValue 92 (lRd_readValue_92 a2 a3 a4 r1) [] (hpo X mem sw o e) P := by
  show QW (d + 1) mRd_readValue 92 [.val (.ref 30), .val (.ref r1), .val (.int a2), .val (.int a3), .val (.int a4)] [] (hpo X mem sw o e) P
  refine QW.aload_n dRd_readValue_92 rfl rfl ?_
  refine MW.getr (r' := 31) hX dRd_readValue_93 fRd_12 rfl rfl (by cases sw <;> rfl) ?_
  refine QW.iconst (v := 5) dRd_readValue_96 (by decide) ?_
  exact MW.calV (as := [.int 5]) (rest := []) hX dRd_readValue_97 eTok_take lRd_64 iTok_take vTok_take rfl rfl rfl rfl rfl rfl (Nat.le_of_ble_eq_true rfl) rfl k1
theorem bRd_readValue_100 {r1 : Nat} {a2 : Int32} {a3 : Int32} {a4 : Int32} {s0 : Int32} (hX : X.length = 13) (hr1 : kBl r1) (h1 : narrow .boolean (.int s0) = .int s0) (k2 : P (.inl (some (.int s0)), (hpo X mem sw o e))) : QW d mRd_readValue 100 (lRd_readValue_100 a2 a3 a4 r1) [.int s0] (hpo X mem sw o e) P := by
  show QW d mRd_readValue 100 [.val (.ref 30), .val (.ref r1), .val (.int a2), .val (.int a3), .val (.int a4)] [.int s0] (hpo X mem sw o e) P
  exact QW.iret dRd_readValue_100 rfl h1 k2
theorem dTxt_append_0 : decode mTxt_append.2.1 0 = .ok (.lload_n 1, 1) := by decide +kernel
theorem dTxt_append_1 : decode mTxt_append.2.1 1 = .ok (.invokestatic 15, 3) := by decide +kernel
theorem dTxt_append_4 : decode mTxt_append.2.1 4 = .ok (.istore_n 3, 1) := by decide +kernel
theorem dTxt_append_5 : decode mTxt_append.2.1 5 = .ok (.iload_n 3, 1) := by decide +kernel
theorem dTxt_append_6 : decode mTxt_append.2.1 6 = .ok (.ifCond .lt 15, 3) := by decide +kernel
theorem dTxt_append_9 : decode mTxt_append.2.1 9 = .ok (.aload_n 0, 1) := by decide +kernel
theorem dTxt_append_10 : decode mTxt_append.2.1 10 = .ok (.getfield 19, 3) := by decide +kernel
theorem dTxt_append_13 : decode mTxt_append.2.1 13 = .ok (.iload_n 3, 1) := by decide +kernel
theorem dTxt_append_14 : decode mTxt_append.2.1 14 = .ok (.iadd, 1) := by decide +kernel
theorem dTxt_append_15 : decode mTxt_append.2.1 15 = .ok (.sipush 200, 3) := by decide +kernel
theorem dTxt_append_18 : decode mTxt_append.2.1 18 = .ok (.if_icmp .le 5, 3) := by decide +kernel
theorem dTxt_append_21 : decode mTxt_append.2.1 21 = .ok (.iconst 0, 1) := by decide +kernel
theorem dTxt_append_22 : decode mTxt_append.2.1 22 = .ok (.ireturn, 1) := by decide +kernel
theorem dTxt_append_23 : decode mTxt_append.2.1 23 = .ok (.iconst 0, 1) := by decide +kernel
theorem dTxt_append_24 : decode mTxt_append.2.1 24 = .ok (.istore 4, 2) := by decide +kernel
theorem dTxt_append_26 : decode mTxt_append.2.1 26 = .ok (.iload 4, 2) := by decide +kernel
theorem dTxt_append_28 : decode mTxt_append.2.1 28 = .ok (.bipush 8, 2) := by decide +kernel
theorem dTxt_append_30 : decode mTxt_append.2.1 30 = .ok (.if_icmp .ge 44, 3) := by decide +kernel
theorem dTxt_append_33 : decode mTxt_append.2.1 33 = .ok (.lload_n 1, 1) := by decide +kernel
theorem dTxt_append_34 : decode mTxt_append.2.1 34 = .ok (.iload 4, 2) := by decide +kernel
theorem dTxt_append_36 : decode mTxt_append.2.1 36 = .ok (.invokestatic 23, 3) := by decide +kernel
theorem dTxt_append_39 : decode mTxt_append.2.1 39 = .ok (.istore 5, 2) := by decide +kernel
theorem dTxt_append_41 : decode mTxt_append.2.1 41 = .ok (.iload 5, 2) := by decide +kernel
theorem dTxt_append_43 : decode mTxt_append.2.1 43 = .ok (.ifCond .eq 25, 3) := by decide +kernel
theorem dTxt_append_46 : decode mTxt_append.2.1 46 = .ok (.aload_n 0, 1) := by decide +kernel
theorem dTxt_append_47 : decode mTxt_append.2.1 47 = .ok (.getfield 9, 3) := by decide +kernel
theorem dTxt_append_50 : decode mTxt_append.2.1 50 = .ok (.aload_n 0, 1) := by decide +kernel
theorem dTxt_append_51 : decode mTxt_append.2.1 51 = .ok (.getfield 19, 3) := by decide +kernel
theorem dTxt_append_54 : decode mTxt_append.2.1 54 = .ok (.iload 5, 2) := by decide +kernel
theorem dTxt_append_56 : decode mTxt_append.2.1 56 = .ok (.i2c, 1) := by decide +kernel
theorem dTxt_append_57 : decode mTxt_append.2.1 57 = .ok (.castore, 1) := by decide +kernel
theorem dTxt_append_58 : decode mTxt_append.2.1 58 = .ok (.aload_n 0, 1) := by decide +kernel
theorem dTxt_append_59 : decode mTxt_append.2.1 59 = .ok (.dup, 1) := by decide +kernel
theorem dTxt_append_60 : decode mTxt_append.2.1 60 = .ok (.getfield 19, 3) := by decide +kernel
theorem dTxt_append_63 : decode mTxt_append.2.1 63 = .ok (.iconst 1, 1) := by decide +kernel
theorem dTxt_append_64 : decode mTxt_append.2.1 64 = .ok (.iadd, 1) := by decide +kernel
theorem dTxt_append_65 : decode mTxt_append.2.1 65 = .ok (.putfield 19, 3) := by decide +kernel
theorem dTxt_append_68 : decode mTxt_append.2.1 68 = .ok (.iinc 4 1, 3) := by decide +kernel
theorem dTxt_append_71 : decode mTxt_append.2.1 71 = .ok (.goto (-45), 3) := by decide +kernel
theorem dTxt_append_74 : decode mTxt_append.2.1 74 = .ok (.iconst 1, 1) := by decide +kernel
theorem dTxt_append_75 : decode mTxt_append.2.1 75 = .ok (.ireturn, 1) := by decide +kernel
def lTxt_append_4 (a1 : Int64) : List Slot := [.val (.ref 28), .val (.long a1), .second, .unset, .unset, .unset]
def lTxt_append_26 (a1 : Int64) (a3 : Int32) (a4 : Int32) (w5 : Slot) : List Slot := [.val (.ref 28), .val (.long a1), .second, .val (.int a3), .val (.int a4), w5]
def lTxt_append_39 (a1 : Int64) (a3 : Int32) (a4 : Int32) (w5 : Slot) : List Slot := [.val (.ref 28), .val (.long a1), .second, .val (.int a3), .val (.int a4), w5]
theorem bTxt_append_0 {a1 : Int64} (hX : X.length = 13) (k1 : QW d mTxt_countOf 0 (qen 5 [.long a1]) [] (hpo X mem sw o e) (qcl d mTxt_append 1 4 (lTxt_append_4 a1) [] P)) : QW (d + 1) mTxt_append 0 (qen 6 [.ref 28, .long a1]) [] (hpo X mem sw o e) P := by
  show QW (d + 1) mTxt_append 0 [.val (.ref 28), .val (.long a1), .second, .unset, .unset, .unset] [] (hpo X mem sw o e) P
  refine QW.lload_n dTxt_append_0 rfl rfl ?_
  exact MW.calS (as := [.long a1]) (rest := []) dTxt_append_1 eTxt_countOf lTxt_15 sTxt_countOf rfl rfl rfl (Nat.le_of_ble_eq_true rfl) rfl k1
theorem bTxt_append_4 {a1 : Int64} {s0 : Int32} (hX : X.length = 13) (k1 : (s0 < 0) → P (.inl (some (.int 0)), (hpo X mem sw o e))) (k2 : (¬ s0 < 0) → (((mem 28 1) + s0) ≤ 200) → QW d mTxt_append 26 (lTxt_append_26 a1 s0 0 .unset) [] (hpo X mem sw o e) P) (k3 : (¬ s0 < 0) → (¬ ((mem 28 1) + s0) ≤ 200) → P (.inl (some (.int 0)), (hpo X mem sw o e))) : QW d mTxt_append 4 (lTxt_append_4 a1) [.int s0] (hpo X mem sw o e) P := by
  show QW d mTxt_append 4 [.val (.ref 28), .val (.long a1), .second, .unset, .unset, .unset] [.int s0] (hpo X mem sw o e) P
  refine QW.istore_n (ls' := [.val (.ref 28), .val (.long a1), .second, .val (.int s0), .unset, .unset]) dTxt_append_4 rfl rfl ?_
  refine QW.iload_n dTxt_append_5 rfl rfl ?_
  refine QW.if_lt (tgt := 21) dTxt_append_6 (by decide) (fun z0 => ?_) (fun z0 => ?_)
  · refine QW.iconst (v := 0) dTxt_append_21 (by decide) ?_
    exact QW.iret dTxt_append_22 rfl rfl (k1 z0)
  · refine QW.aload_n dTxt_append_9 rfl rfl ?_
    refine MW.geti hX dTxt_append_10 fTxt_19 rfl rfl ?_
    refine QW.iload_n dTxt_append_13 rfl rfl ?_
    refine QW.iadd dTxt_append_14 ?_
    refine QW.sipush (v := 200) dTxt_append_15 (by decide) ?_
    refine QW.icmp_le (tgt := 23) dTxt_append_18 (by decide) (fun z1 => ?_) (fun z1 => ?_)
    · refine QW.iconst (v := 0) dTxt_append_23 (by decide) ?_
      refine QW.istore (ls' := [.val (.ref 28), .val (.long a1), .second, .val (.int s0), .val (.int 0), .unset]) dTxt_append_24 rfl ?_
      exact (k2 z0 z1)
    · refine QW.iconst (v := 0) dTxt_append_21 (by decide) ?_
      exact QW.iret dTxt_append_22 rfl rfl (k3 z0 z1)
theorem bTxt_append_26 {a1 : Int64} {a3 : Int32} {a4 : Int32} {w5 : Slot} (hX : X.length = 13) (hw5 : qfr w5) (k1 : (8 ≤ a4) → P (.inl (some (.int 1)), (hpo X mem sw o e))) (k2 : (¬ 8 ≤ a4) → QW d mTxt_byteOf 0 (qen 3 [.long a1, .int a4]) [] (hpo X mem sw o e) (qcl d mTxt_append 36 39 (lTxt_append_39 a1 a3 a4 w5) [] P)) : QW (d + 1) mTxt_append 26 (lTxt_append_26 a1 a3 a4 w5) [] (hpo X mem sw o e) P := by
  show QW (d + 1) mTxt_append 26 [.val (.ref 28), .val (.long a1), .second, .val (.int a3), .val (.int a4), w5] [] (hpo X mem sw o e) P
  refine QW.iload dTxt_append_26 rfl ?_
  refine QW.bipush (v := 8) dTxt_append_28 (by decide) ?_
  refine QW.icmp_ge (tgt := 74) dTxt_append_30 (by decide) (fun z0 => ?_) (fun z0 => ?_)
  · refine QW.iconst (v := 1) dTxt_append_74 (by decide) ?_
    exact QW.iret dTxt_append_75 rfl rfl (k1 z0)
  · refine QW.lload_n dTxt_append_33 rfl rfl ?_
    refine QW.iload dTxt_append_34 rfl ?_
    exact MW.calS (as := [.long a1, .int a4]) (rest := []) dTxt_append_36 eTxt_byteOf lTxt_23 sTxt_byteOf rfl rfl rfl (Nat.le_of_ble_eq_true rfl) rfl (k2 z0)
theorem bTxt_append_39 {a1 : Int64} {a3 : Int32} {a4 : Int32} {w5 : Slot} {s0 : Int32} (hX : X.length = 13) (hw5 : qfr w5) (k1 : (s0 = 0) → QW d mTxt_append 26 (lTxt_append_26 a1 a3 (a4 + 1) (.val (.int s0))) [] (hpo X mem sw o e) P) (h2 : (¬ s0 = 0) → inx (mem 28 1) 200) (h3 : (¬ s0 = 0) → narrow .char (.int ((Int32.toUInt32 s0 % 65536).toInt32)) = .int ((Int32.toUInt32 s0 % 65536).toInt32)) (k4 : (¬ s0 = 0) → QW d mTxt_append 26 (lTxt_append_26 a1 a3 (a4 + 1) (.val (.int s0))) [] (hpo X (mup (mup mem 29 (Int32.toNatClampNeg (mem 28 1)) ((Int32.toUInt32 s0 % 65536).toInt32)) 28 1 (((mup mem 29 (Int32.toNatClampNeg (mem 28 1)) ((Int32.toUInt32 s0 % 65536).toInt32)) 28 1) + 1)) sw o e) P) : QW d mTxt_append 39 (lTxt_append_39 a1 a3 a4 w5) [.int s0] (hpo X mem sw o e) P := by
  show QW d mTxt_append 39 [.val (.ref 28), .val (.long a1), .second, .val (.int a3), .val (.int a4), w5] [.int s0] (hpo X mem sw o e) P
  refine QW.istore (ls' := [.val (.ref 28), .val (.long a1), .second, .val (.int a3), .val (.int a4), .val (.int s0)]) dTxt_append_39 (by rcases hw5 with z | ⟨_, z⟩ | ⟨_, z⟩ <;> subst z <;> rfl) ?_
  refine QW.iload dTxt_append_41 rfl ?_
  refine QW.if_eq (tgt := 68) dTxt_append_43 (by decide) (fun z0 => ?_) (fun z0 => ?_)
  · refine MW.iinc (c := 1) (ls' := [.val (.ref 28), .val (.long a1), .second, .val (.int a3), .val (.int (a4 + 1)), .val (.int s0)]) dTxt_append_68 (by decide) rfl rfl ?_
    refine QW.goto (tgt := 26) dTxt_append_71 (by decide) ?_
    exact (k1 z0)
  · refine QW.aload_n dTxt_append_46 rfl rfl ?_
    refine MW.getr (r' := 29) hX dTxt_append_47 fTxt_9 rfl rfl (by cases sw <;> rfl) ?_
    refine QW.aload_n dTxt_append_50 rfl rfl ?_
    refine MW.geti hX dTxt_append_51 fTxt_19 rfl rfl ?_
    refine QW.iload dTxt_append_54 rfl ?_
    refine QW.i2c dTxt_append_56 ?_
    refine MW.cast hX dTxt_append_57 rfl (h2 z0).1 (rep_get (h2 z0).2) (h3 z0) ?_
    refine QW.aload_n dTxt_append_58 rfl rfl ?_
    refine QW.dup dTxt_append_59 rfl ?_
    refine MW.geti hX dTxt_append_60 fTxt_19 rfl rfl ?_
    refine QW.iconst (v := 1) dTxt_append_63 (by decide) ?_
    refine QW.iadd dTxt_append_64 ?_
    refine MW.puti hX dTxt_append_65 fTxt_19 rfl rfl rfl ?_
    refine MW.iinc (c := 1) (ls' := [.val (.ref 28), .val (.long a1), .second, .val (.int a3), .val (.int (a4 + 1)), .val (.int s0)]) dTxt_append_68 (by decide) rfl rfl ?_
    refine QW.goto (tgt := 26) dTxt_append_71 (by decide) ?_
    exact (k4 z0)
theorem dTxt_countOf_0 : decode mTxt_countOf.2.1 0 = .ok (.iconst 0, 1) := by decide +kernel
theorem dTxt_countOf_1 : decode mTxt_countOf.2.1 1 = .ok (.istore_n 2, 1) := by decide +kernel
theorem dTxt_countOf_2 : decode mTxt_countOf.2.1 2 = .ok (.iconst 0, 1) := by decide +kernel
theorem dTxt_countOf_3 : decode mTxt_countOf.2.1 3 = .ok (.istore_n 3, 1) := by decide +kernel
theorem dTxt_countOf_4 : decode mTxt_countOf.2.1 4 = .ok (.iload_n 3, 1) := by decide +kernel
theorem dTxt_countOf_5 : decode mTxt_countOf.2.1 5 = .ok (.bipush 8, 2) := by decide +kernel
theorem dTxt_countOf_7 : decode mTxt_countOf.2.1 7 = .ok (.if_icmp .ge 50, 3) := by decide +kernel
theorem dTxt_countOf_10 : decode mTxt_countOf.2.1 10 = .ok (.lload_n 0, 1) := by decide +kernel
theorem dTxt_countOf_11 : decode mTxt_countOf.2.1 11 = .ok (.iload_n 3, 1) := by decide +kernel
theorem dTxt_countOf_12 : decode mTxt_countOf.2.1 12 = .ok (.invokestatic 23, 3) := by decide +kernel
theorem dTxt_countOf_15 : decode mTxt_countOf.2.1 15 = .ok (.istore 4, 2) := by decide +kernel
theorem dTxt_countOf_17 : decode mTxt_countOf.2.1 17 = .ok (.iload 4, 2) := by decide +kernel
theorem dTxt_countOf_19 : decode mTxt_countOf.2.1 19 = .ok (.ifCond .eq 19, 3) := by decide +kernel
theorem dTxt_countOf_22 : decode mTxt_countOf.2.1 22 = .ok (.iload 4, 2) := by decide +kernel
theorem dTxt_countOf_24 : decode mTxt_countOf.2.1 24 = .ok (.bipush 32, 2) := by decide +kernel
theorem dTxt_countOf_26 : decode mTxt_countOf.2.1 26 = .ok (.if_icmp .lt 10, 3) := by decide +kernel
theorem dTxt_countOf_29 : decode mTxt_countOf.2.1 29 = .ok (.iload 4, 2) := by decide +kernel
theorem dTxt_countOf_31 : decode mTxt_countOf.2.1 31 = .ok (.bipush 126, 2) := by decide +kernel
theorem dTxt_countOf_33 : decode mTxt_countOf.2.1 33 = .ok (.if_icmp .le 5, 3) := by decide +kernel
theorem dTxt_countOf_36 : decode mTxt_countOf.2.1 36 = .ok (.iconst (-1), 1) := by decide +kernel
theorem dTxt_countOf_37 : decode mTxt_countOf.2.1 37 = .ok (.ireturn, 1) := by decide +kernel
theorem dTxt_countOf_38 : decode mTxt_countOf.2.1 38 = .ok (.iload_n 2, 1) := by decide +kernel
theorem dTxt_countOf_39 : decode mTxt_countOf.2.1 39 = .ok (.iload 4, 2) := by decide +kernel
theorem dTxt_countOf_41 : decode mTxt_countOf.2.1 41 = .ok (.ifCond .ne 7, 3) := by decide +kernel
theorem dTxt_countOf_44 : decode mTxt_countOf.2.1 44 = .ok (.iconst 0, 1) := by decide +kernel
theorem dTxt_countOf_45 : decode mTxt_countOf.2.1 45 = .ok (.goto 4, 3) := by decide +kernel
theorem dTxt_countOf_48 : decode mTxt_countOf.2.1 48 = .ok (.iconst 1, 1) := by decide +kernel
theorem dTxt_countOf_49 : decode mTxt_countOf.2.1 49 = .ok (.iadd, 1) := by decide +kernel
theorem dTxt_countOf_50 : decode mTxt_countOf.2.1 50 = .ok (.istore_n 2, 1) := by decide +kernel
theorem dTxt_countOf_51 : decode mTxt_countOf.2.1 51 = .ok (.iinc 3 1, 3) := by decide +kernel
theorem dTxt_countOf_54 : decode mTxt_countOf.2.1 54 = .ok (.goto (-50), 3) := by decide +kernel
theorem dTxt_countOf_57 : decode mTxt_countOf.2.1 57 = .ok (.iload_n 2, 1) := by decide +kernel
theorem dTxt_countOf_58 : decode mTxt_countOf.2.1 58 = .ok (.ireturn, 1) := by decide +kernel
def lTxt_countOf_4 (a0 : Int64) (a2 : Int32) (a3 : Int32) (w4 : Slot) : List Slot := [.val (.long a0), .second, .val (.int a2), .val (.int a3), w4]
def lTxt_countOf_15 (a0 : Int64) (a2 : Int32) (a3 : Int32) (w4 : Slot) : List Slot := [.val (.long a0), .second, .val (.int a2), .val (.int a3), w4]
def lTxt_countOf_38 (a0 : Int64) (a2 : Int32) (a3 : Int32) (a4 : Int32) : List Slot := [.val (.long a0), .second, .val (.int a2), .val (.int a3), .val (.int a4)]
def lTxt_countOf_49 (a0 : Int64) (a2 : Int32) (a3 : Int32) (a4 : Int32) : List Slot := [.val (.long a0), .second, .val (.int a2), .val (.int a3), .val (.int a4)]
theorem bTxt_countOf_0 {a0 : Int64} (hX : X.length = 13) (k1 : QW d mTxt_countOf 4 (lTxt_countOf_4 a0 0 0 .unset) [] (hpo X mem sw o e) P) : QW d mTxt_countOf 0 (qen 5 [.long a0]) [] (hpo X mem sw o e) P := by
  show QW d mTxt_countOf 0 [.val (.long a0), .second, .unset, .unset, .unset] [] (hpo X mem sw o e) P
  refine QW.iconst (v := 0) dTxt_countOf_0 (by decide) ?_
  refine QW.istore_n (ls' := [.val (.long a0), .second, .val (.int 0), .unset, .unset]) dTxt_countOf_1 rfl rfl ?_
  refine QW.iconst (v := 0) dTxt_countOf_2 (by decide) ?_
  refine QW.istore_n (ls' := [.val (.long a0), .second, .val (.int 0), .val (.int 0), .unset]) dTxt_countOf_3 rfl rfl ?_
  exact k1
theorem bTxt_countOf_4 {a0 : Int64} {a2 : Int32} {a3 : Int32} {w4 : Slot} (hX : X.length = 13) (hw4 : qfr w4) (k1 : (8 ≤ a3) → P (.inl (some (.int a2)), (hpo X mem sw o e))) (k2 : (¬ 8 ≤ a3) → QW d mTxt_byteOf 0 (qen 3 [.long a0, .int a3]) [] (hpo X mem sw o e) (qcl d mTxt_countOf 12 15 (lTxt_countOf_15 a0 a2 a3 w4) [] P)) : QW (d + 1) mTxt_countOf 4 (lTxt_countOf_4 a0 a2 a3 w4) [] (hpo X mem sw o e) P := by
  show QW (d + 1) mTxt_countOf 4 [.val (.long a0), .second, .val (.int a2), .val (.int a3), w4] [] (hpo X mem sw o e) P
  refine QW.iload_n dTxt_countOf_4 rfl rfl ?_
  refine QW.bipush (v := 8) dTxt_countOf_5 (by decide) ?_
  refine QW.icmp_ge (tgt := 57) dTxt_countOf_7 (by decide) (fun z0 => ?_) (fun z0 => ?_)
  · refine QW.iload_n dTxt_countOf_57 rfl rfl ?_
    exact QW.iret dTxt_countOf_58 rfl rfl (k1 z0)
  · refine QW.lload_n dTxt_countOf_10 rfl rfl ?_
    refine QW.iload_n dTxt_countOf_11 rfl rfl ?_
    exact MW.calS (as := [.long a0, .int a3]) (rest := []) dTxt_countOf_12 eTxt_byteOf lTxt_23 sTxt_byteOf rfl rfl rfl (Nat.le_of_ble_eq_true rfl) rfl (k2 z0)
theorem bTxt_countOf_15 {a0 : Int64} {a2 : Int32} {a3 : Int32} {w4 : Slot} {s0 : Int32} (hX : X.length = 13) (hw4 : qfr w4) (k1 : (s0 = 0) → QW d mTxt_countOf 38 (lTxt_countOf_38 a0 a2 a3 s0) [] (hpo X mem sw o e) P) (k2 : (¬ s0 = 0) → (s0 < 32) → P (.inl (some (.int (-1))), (hpo X mem sw o e))) (k3 : (¬ s0 = 0) → (¬ s0 < 32) → (s0 ≤ 126) → QW d mTxt_countOf 38 (lTxt_countOf_38 a0 a2 a3 s0) [] (hpo X mem sw o e) P) (k4 : (¬ s0 = 0) → (¬ s0 < 32) → (¬ s0 ≤ 126) → P (.inl (some (.int (-1))), (hpo X mem sw o e))) : QW d mTxt_countOf 15 (lTxt_countOf_15 a0 a2 a3 w4) [.int s0] (hpo X mem sw o e) P := by
  show QW d mTxt_countOf 15 [.val (.long a0), .second, .val (.int a2), .val (.int a3), w4] [.int s0] (hpo X mem sw o e) P
  refine QW.istore (ls' := [.val (.long a0), .second, .val (.int a2), .val (.int a3), .val (.int s0)]) dTxt_countOf_15 (by rcases hw4 with z | ⟨_, z⟩ | ⟨_, z⟩ <;> subst z <;> rfl) ?_
  refine QW.iload dTxt_countOf_17 rfl ?_
  refine QW.if_eq (tgt := 38) dTxt_countOf_19 (by decide) (fun z0 => ?_) (fun z0 => ?_)
  · exact (k1 z0)
  · refine QW.iload dTxt_countOf_22 rfl ?_
    refine QW.bipush (v := 32) dTxt_countOf_24 (by decide) ?_
    refine QW.icmp_lt (tgt := 36) dTxt_countOf_26 (by decide) (fun z1 => ?_) (fun z1 => ?_)
    · refine QW.iconst (v := (-1)) dTxt_countOf_36 (by decide) ?_
      exact QW.iret dTxt_countOf_37 rfl rfl (k2 z0 z1)
    · refine QW.iload dTxt_countOf_29 rfl ?_
      refine QW.bipush (v := 126) dTxt_countOf_31 (by decide) ?_
      refine QW.icmp_le (tgt := 38) dTxt_countOf_33 (by decide) (fun z2 => ?_) (fun z2 => ?_)
      · exact (k3 z0 z1 z2)
      · refine QW.iconst (v := (-1)) dTxt_countOf_36 (by decide) ?_
        exact QW.iret dTxt_countOf_37 rfl rfl (k4 z0 z1 z2)
theorem bTxt_countOf_38 {a0 : Int64} {a2 : Int32} {a3 : Int32} {a4 : Int32} (hX : X.length = 13) (k1 : (¬ a4 = 0) → QW d mTxt_countOf 49 (lTxt_countOf_49 a0 a2 a3 a4) [.int 1, .int a2] (hpo X mem sw o e) P) (k2 : (a4 = 0) → QW d mTxt_countOf 49 (lTxt_countOf_49 a0 a2 a3 a4) [.int 0, .int a2] (hpo X mem sw o e) P) : QW d mTxt_countOf 38 (lTxt_countOf_38 a0 a2 a3 a4) [] (hpo X mem sw o e) P := by
  show QW d mTxt_countOf 38 [.val (.long a0), .second, .val (.int a2), .val (.int a3), .val (.int a4)] [] (hpo X mem sw o e) P
  refine QW.iload_n dTxt_countOf_38 rfl rfl ?_
  refine QW.iload dTxt_countOf_39 rfl ?_
  refine QW.if_ne (tgt := 48) dTxt_countOf_41 (by decide) (fun z0 => ?_) (fun z0 => ?_)
  · refine QW.iconst (v := 1) dTxt_countOf_48 (by decide) ?_
    exact (k1 z0)
  · refine QW.iconst (v := 0) dTxt_countOf_44 (by decide) ?_
    refine QW.goto (tgt := 49) dTxt_countOf_45 (by decide) ?_
    exact (k2 z0)
theorem bTxt_countOf_49 {a0 : Int64} {a2 : Int32} {a3 : Int32} {a4 : Int32} {s1 : Int32} {s0 : Int32} (hX : X.length = 13) (k1 : QW d mTxt_countOf 4 (lTxt_countOf_4 a0 (s0 + s1) (a3 + 1) (.val (.int a4))) [] (hpo X mem sw o e) P) : QW d mTxt_countOf 49 (lTxt_countOf_49 a0 a2 a3 a4) [.int s1, .int s0] (hpo X mem sw o e) P := by
  show QW d mTxt_countOf 49 [.val (.long a0), .second, .val (.int a2), .val (.int a3), .val (.int a4)] [.int s1, .int s0] (hpo X mem sw o e) P
  refine QW.iadd dTxt_countOf_49 ?_
  refine QW.istore_n (ls' := [.val (.long a0), .second, .val (.int (s0 + s1)), .val (.int a3), .val (.int a4)]) dTxt_countOf_50 rfl rfl ?_
  refine MW.iinc (c := 1) (ls' := [.val (.long a0), .second, .val (.int (s0 + s1)), .val (.int (a3 + 1)), .val (.int a4)]) dTxt_countOf_51 (by decide) rfl rfl ?_
  refine QW.goto (tgt := 4) dTxt_countOf_54 (by decide) ?_
  exact k1
theorem dTxt_byteOf_0 : decode mTxt_byteOf.2.1 0 = .ok (.lload_n 0, 1) := by decide +kernel
theorem dTxt_byteOf_1 : decode mTxt_byteOf.2.1 1 = .ok (.bipush 8, 2) := by decide +kernel
theorem dTxt_byteOf_3 : decode mTxt_byteOf.2.1 3 = .ok (.iload_n 2, 1) := by decide +kernel
theorem dTxt_byteOf_4 : decode mTxt_byteOf.2.1 4 = .ok (.imul, 1) := by decide +kernel
theorem dTxt_byteOf_5 : decode mTxt_byteOf.2.1 5 = .ok (.lushr, 1) := by decide +kernel
theorem dTxt_byteOf_6 : decode mTxt_byteOf.2.1 6 = .ok (.l2i, 1) := by decide +kernel
theorem dTxt_byteOf_7 : decode mTxt_byteOf.2.1 7 = .ok (.sipush 255, 3) := by decide +kernel
theorem dTxt_byteOf_10 : decode mTxt_byteOf.2.1 10 = .ok (.iand, 1) := by decide +kernel
theorem dTxt_byteOf_11 : decode mTxt_byteOf.2.1 11 = .ok (.ireturn, 1) := by decide +kernel
theorem bTxt_byteOf_0 {a0 : Int64} {a2 : Int32} (hX : X.length = 13) (k1 : P (.inl (some (.int ((Int64.toInt32 ((Int64.toUInt64 a0 >>> ((Int32.toInt64 (8 * a2)).toUInt64 &&& Int64.toUInt64 63)).toInt64)) &&& 255))), (hpo X mem sw o e))) : QW d mTxt_byteOf 0 (qen 3 [.long a0, .int a2]) [] (hpo X mem sw o e) P := by
  show QW d mTxt_byteOf 0 [.val (.long a0), .second, .val (.int a2)] [] (hpo X mem sw o e) P
  refine QW.lload_n dTxt_byteOf_0 rfl rfl ?_
  refine QW.bipush (v := 8) dTxt_byteOf_1 (by decide) ?_
  refine QW.iload_n dTxt_byteOf_3 rfl rfl ?_
  refine QW.imul dTxt_byteOf_4 ?_
  refine QW.lushr dTxt_byteOf_5 ?_
  refine QW.l2i dTxt_byteOf_6 ?_
  refine QW.sipush (v := 255) dTxt_byteOf_7 (by decide) ?_
  refine QW.iand dTxt_byteOf_10 ?_
  exact QW.iret dTxt_byteOf_11 rfl rfl k1
theorem dTxt_endOfRun_0 : decode mTxt_endOfRun.2.1 0 = .ok (.iload_n 1, 1) := by decide +kernel
theorem dTxt_endOfRun_1 : decode mTxt_endOfRun.2.1 1 = .ok (.istore 4, 2) := by decide +kernel
theorem dTxt_endOfRun_3 : decode mTxt_endOfRun.2.1 3 = .ok (.iload 4, 2) := by decide +kernel
theorem dTxt_endOfRun_5 : decode mTxt_endOfRun.2.1 5 = .ok (.aload_n 0, 1) := by decide +kernel
theorem dTxt_endOfRun_6 : decode mTxt_endOfRun.2.1 6 = .ok (.getfield 19, 3) := by decide +kernel
theorem dTxt_endOfRun_9 : decode mTxt_endOfRun.2.1 9 = .ok (.if_icmp .ge 31, 3) := by decide +kernel
theorem dTxt_endOfRun_12 : decode mTxt_endOfRun.2.1 12 = .ok (.aload_n 0, 1) := by decide +kernel
theorem dTxt_endOfRun_13 : decode mTxt_endOfRun.2.1 13 = .ok (.getfield 9, 3) := by decide +kernel
theorem dTxt_endOfRun_16 : decode mTxt_endOfRun.2.1 16 = .ok (.iload 4, 2) := by decide +kernel
theorem dTxt_endOfRun_18 : decode mTxt_endOfRun.2.1 18 = .ok (.caload, 1) := by decide +kernel
theorem dTxt_endOfRun_19 : decode mTxt_endOfRun.2.1 19 = .ok (.iload_n 2, 1) := by decide +kernel
theorem dTxt_endOfRun_20 : decode mTxt_endOfRun.2.1 20 = .ok (.if_icmp .lt 20, 3) := by decide +kernel
theorem dTxt_endOfRun_23 : decode mTxt_endOfRun.2.1 23 = .ok (.aload_n 0, 1) := by decide +kernel
theorem dTxt_endOfRun_24 : decode mTxt_endOfRun.2.1 24 = .ok (.getfield 9, 3) := by decide +kernel
theorem dTxt_endOfRun_27 : decode mTxt_endOfRun.2.1 27 = .ok (.iload 4, 2) := by decide +kernel
theorem dTxt_endOfRun_29 : decode mTxt_endOfRun.2.1 29 = .ok (.caload, 1) := by decide +kernel
theorem dTxt_endOfRun_30 : decode mTxt_endOfRun.2.1 30 = .ok (.iload_n 3, 1) := by decide +kernel
theorem dTxt_endOfRun_31 : decode mTxt_endOfRun.2.1 31 = .ok (.if_icmp .gt 9, 3) := by decide +kernel
theorem dTxt_endOfRun_34 : decode mTxt_endOfRun.2.1 34 = .ok (.iinc 4 1, 3) := by decide +kernel
theorem dTxt_endOfRun_37 : decode mTxt_endOfRun.2.1 37 = .ok (.goto (-34), 3) := by decide +kernel
theorem dTxt_endOfRun_40 : decode mTxt_endOfRun.2.1 40 = .ok (.iload 4, 2) := by decide +kernel
theorem dTxt_endOfRun_42 : decode mTxt_endOfRun.2.1 42 = .ok (.ireturn, 1) := by decide +kernel
def lTxt_endOfRun_3 (a1 : Int32) (a2 : Int32) (a3 : Int32) (a4 : Int32) : List Slot := [.val (.ref 28), .val (.int a1), .val (.int a2), .val (.int a3), .val (.int a4)]
def lTxt_endOfRun_40 (a1 : Int32) (a2 : Int32) (a3 : Int32) (a4 : Int32) : List Slot := [.val (.ref 28), .val (.int a1), .val (.int a2), .val (.int a3), .val (.int a4)]
theorem bTxt_endOfRun_0 {a1 : Int32} {a2 : Int32} {a3 : Int32} (hX : X.length = 13) (k1 : QW d mTxt_endOfRun 3 (lTxt_endOfRun_3 a1 a2 a3 a1) [] (hpo X mem sw o e) P) : QW d mTxt_endOfRun 0 (qen 5 [.ref 28, .int a1, .int a2, .int a3]) [] (hpo X mem sw o e) P := by
  show QW d mTxt_endOfRun 0 [.val (.ref 28), .val (.int a1), .val (.int a2), .val (.int a3), .unset] [] (hpo X mem sw o e) P
  refine QW.iload_n dTxt_endOfRun_0 rfl rfl ?_
  refine QW.istore (ls' := [.val (.ref 28), .val (.int a1), .val (.int a2), .val (.int a3), .val (.int a1)]) dTxt_endOfRun_1 rfl ?_
  exact k1
theorem bTxt_endOfRun_3 {a1 : Int32} {a2 : Int32} {a3 : Int32} {a4 : Int32} (hX : X.length = 13) (k1 : ((mem 28 1) ≤ a4) → QW d mTxt_endOfRun 40 (lTxt_endOfRun_40 a1 a2 a3 a4) [] (hpo X mem sw o e) P) (h2 : (¬ (mem 28 1) ≤ a4) → inx a4 200) (k3 : (¬ (mem 28 1) ≤ a4) → ((mem 29 (Int32.toNatClampNeg a4)) < a2) → QW d mTxt_endOfRun 40 (lTxt_endOfRun_40 a1 a2 a3 a4) [] (hpo X mem sw o e) P) (h4 : (¬ (mem 28 1) ≤ a4) → (¬ (mem 29 (Int32.toNatClampNeg a4)) < a2) → inx a4 200) (k5 : (¬ (mem 28 1) ≤ a4) → (¬ (mem 29 (Int32.toNatClampNeg a4)) < a2) → (a3 < (mem 29 (Int32.toNatClampNeg a4))) → QW d mTxt_endOfRun 40 (lTxt_endOfRun_40 a1 a2 a3 a4) [] (hpo X mem sw o e) P) (k6 : (¬ (mem 28 1) ≤ a4) → (¬ (mem 29 (Int32.toNatClampNeg a4)) < a2) → (¬ a3 < (mem 29 (Int32.toNatClampNeg a4))) → QW d mTxt_endOfRun 3 (lTxt_endOfRun_3 a1 a2 a3 (a4 + 1)) [] (hpo X mem sw o e) P) : QW d mTxt_endOfRun 3 (lTxt_endOfRun_3 a1 a2 a3 a4) [] (hpo X mem sw o e) P := by
  show QW d mTxt_endOfRun 3 [.val (.ref 28), .val (.int a1), .val (.int a2), .val (.int a3), .val (.int a4)] [] (hpo X mem sw o e) P
  refine QW.iload dTxt_endOfRun_3 rfl ?_
  refine QW.aload_n dTxt_endOfRun_5 rfl rfl ?_
  refine MW.geti hX dTxt_endOfRun_6 fTxt_19 rfl rfl ?_
  refine QW.icmp_ge (tgt := 40) dTxt_endOfRun_9 (by decide) (fun z0 => ?_) (fun z0 => ?_)
  · exact (k1 z0)
  · refine QW.aload_n dTxt_endOfRun_12 rfl rfl ?_
    refine MW.getr (r' := 29) hX dTxt_endOfRun_13 fTxt_9 rfl rfl (by cases sw <;> rfl) ?_
    refine QW.iload dTxt_endOfRun_16 rfl ?_
    refine MW.cald hX dTxt_endOfRun_18 rfl (h2 z0).1 (rep_get (h2 z0).2) ?_
    refine QW.iload_n dTxt_endOfRun_19 rfl rfl ?_
    refine QW.icmp_lt (tgt := 40) dTxt_endOfRun_20 (by decide) (fun z1 => ?_) (fun z1 => ?_)
    · exact (k3 z0 z1)
    · refine QW.aload_n dTxt_endOfRun_23 rfl rfl ?_
      refine MW.getr (r' := 29) hX dTxt_endOfRun_24 fTxt_9 rfl rfl (by cases sw <;> rfl) ?_
      refine QW.iload dTxt_endOfRun_27 rfl ?_
      refine MW.cald hX dTxt_endOfRun_29 rfl (h4 z0 z1).1 (rep_get (h4 z0 z1).2) ?_
      refine QW.iload_n dTxt_endOfRun_30 rfl rfl ?_
      refine QW.icmp_gt (tgt := 40) dTxt_endOfRun_31 (by decide) (fun z2 => ?_) (fun z2 => ?_)
      · exact (k5 z0 z1 z2)
      · refine MW.iinc (c := 1) (ls' := [.val (.ref 28), .val (.int a1), .val (.int a2), .val (.int a3), .val (.int (a4 + 1))]) dTxt_endOfRun_34 (by decide) rfl rfl ?_
        refine QW.goto (tgt := 3) dTxt_endOfRun_37 (by decide) ?_
        exact (k6 z0 z1 z2)
theorem bTxt_endOfRun_40 {a1 : Int32} {a2 : Int32} {a3 : Int32} {a4 : Int32} (hX : X.length = 13) (k1 : P (.inl (some (.int a4)), (hpo X mem sw o e))) : QW d mTxt_endOfRun 40 (lTxt_endOfRun_40 a1 a2 a3 a4) [] (hpo X mem sw o e) P := by
  show QW d mTxt_endOfRun 40 [.val (.ref 28), .val (.int a1), .val (.int a2), .val (.int a3), .val (.int a4)] [] (hpo X mem sw o e) P
  refine QW.iload dTxt_endOfRun_40 rfl ?_
  exact QW.iret dTxt_endOfRun_42 rfl rfl k1
theorem dTxt_number_0 : decode mTxt_number.2.1 0 = .ok (.iconst 0, 1) := by decide +kernel
theorem dTxt_number_1 : decode mTxt_number.2.1 1 = .ok (.istore_n 3, 1) := by decide +kernel
theorem dTxt_number_2 : decode mTxt_number.2.1 2 = .ok (.iload_n 1, 1) := by decide +kernel
theorem dTxt_number_3 : decode mTxt_number.2.1 3 = .ok (.istore 4, 2) := by decide +kernel
theorem dTxt_number_5 : decode mTxt_number.2.1 5 = .ok (.iload 4, 2) := by decide +kernel
theorem dTxt_number_7 : decode mTxt_number.2.1 7 = .ok (.iload_n 2, 1) := by decide +kernel
theorem dTxt_number_8 : decode mTxt_number.2.1 8 = .ok (.if_icmp .ge 25, 3) := by decide +kernel
theorem dTxt_number_11 : decode mTxt_number.2.1 11 = .ok (.iload_n 3, 1) := by decide +kernel
theorem dTxt_number_12 : decode mTxt_number.2.1 12 = .ok (.bipush 10, 2) := by decide +kernel
theorem dTxt_number_14 : decode mTxt_number.2.1 14 = .ok (.imul, 1) := by decide +kernel
theorem dTxt_number_15 : decode mTxt_number.2.1 15 = .ok (.aload_n 0, 1) := by decide +kernel
theorem dTxt_number_16 : decode mTxt_number.2.1 16 = .ok (.getfield 9, 3) := by decide +kernel
theorem dTxt_number_19 : decode mTxt_number.2.1 19 = .ok (.iload 4, 2) := by decide +kernel
theorem dTxt_number_21 : decode mTxt_number.2.1 21 = .ok (.caload, 1) := by decide +kernel
theorem dTxt_number_22 : decode mTxt_number.2.1 22 = .ok (.bipush 48, 2) := by decide +kernel
theorem dTxt_number_24 : decode mTxt_number.2.1 24 = .ok (.isub, 1) := by decide +kernel
theorem dTxt_number_25 : decode mTxt_number.2.1 25 = .ok (.iadd, 1) := by decide +kernel
theorem dTxt_number_26 : decode mTxt_number.2.1 26 = .ok (.istore_n 3, 1) := by decide +kernel
theorem dTxt_number_27 : decode mTxt_number.2.1 27 = .ok (.iinc 4 1, 3) := by decide +kernel
theorem dTxt_number_30 : decode mTxt_number.2.1 30 = .ok (.goto (-25), 3) := by decide +kernel
theorem dTxt_number_33 : decode mTxt_number.2.1 33 = .ok (.iload_n 3, 1) := by decide +kernel
theorem dTxt_number_34 : decode mTxt_number.2.1 34 = .ok (.ireturn, 1) := by decide +kernel
def lTxt_number_5 (a1 : Int32) (a2 : Int32) (a3 : Int32) (a4 : Int32) : List Slot := [.val (.ref 28), .val (.int a1), .val (.int a2), .val (.int a3), .val (.int a4)]
theorem bTxt_number_0 {a1 : Int32} {a2 : Int32} (hX : X.length = 13) (k1 : QW d mTxt_number 5 (lTxt_number_5 a1 a2 0 a1) [] (hpo X mem sw o e) P) : QW d mTxt_number 0 (qen 5 [.ref 28, .int a1, .int a2]) [] (hpo X mem sw o e) P := by
  show QW d mTxt_number 0 [.val (.ref 28), .val (.int a1), .val (.int a2), .unset, .unset] [] (hpo X mem sw o e) P
  refine QW.iconst (v := 0) dTxt_number_0 (by decide) ?_
  refine QW.istore_n (ls' := [.val (.ref 28), .val (.int a1), .val (.int a2), .val (.int 0), .unset]) dTxt_number_1 rfl rfl ?_
  refine QW.iload_n dTxt_number_2 rfl rfl ?_
  refine QW.istore (ls' := [.val (.ref 28), .val (.int a1), .val (.int a2), .val (.int 0), .val (.int a1)]) dTxt_number_3 rfl ?_
  exact k1
theorem bTxt_number_5 {a1 : Int32} {a2 : Int32} {a3 : Int32} {a4 : Int32} (hX : X.length = 13) (k1 : (a2 ≤ a4) → P (.inl (some (.int a3)), (hpo X mem sw o e))) (h2 : (¬ a2 ≤ a4) → inx a4 200) (k3 : (¬ a2 ≤ a4) → QW d mTxt_number 5 (lTxt_number_5 a1 a2 ((a3 * 10) + ((mem 29 (Int32.toNatClampNeg a4)) - 48)) (a4 + 1)) [] (hpo X mem sw o e) P) : QW d mTxt_number 5 (lTxt_number_5 a1 a2 a3 a4) [] (hpo X mem sw o e) P := by
  show QW d mTxt_number 5 [.val (.ref 28), .val (.int a1), .val (.int a2), .val (.int a3), .val (.int a4)] [] (hpo X mem sw o e) P
  refine QW.iload dTxt_number_5 rfl ?_
  refine QW.iload_n dTxt_number_7 rfl rfl ?_
  refine QW.icmp_ge (tgt := 33) dTxt_number_8 (by decide) (fun z0 => ?_) (fun z0 => ?_)
  · refine QW.iload_n dTxt_number_33 rfl rfl ?_
    exact QW.iret dTxt_number_34 rfl rfl (k1 z0)
  · refine QW.iload_n dTxt_number_11 rfl rfl ?_
    refine QW.bipush (v := 10) dTxt_number_12 (by decide) ?_
    refine QW.imul dTxt_number_14 ?_
    refine QW.aload_n dTxt_number_15 rfl rfl ?_
    refine MW.getr (r' := 29) hX dTxt_number_16 fTxt_9 rfl rfl (by cases sw <;> rfl) ?_
    refine QW.iload dTxt_number_19 rfl ?_
    refine MW.cald hX dTxt_number_21 rfl (h2 z0).1 (rep_get (h2 z0).2) ?_
    refine QW.bipush (v := 48) dTxt_number_22 (by decide) ?_
    refine QW.isub dTxt_number_24 ?_
    refine QW.iadd dTxt_number_25 ?_
    refine QW.istore_n (ls' := [.val (.ref 28), .val (.int a1), .val (.int a2), .val (.int ((a3 * 10) + ((mem 29 (Int32.toNatClampNeg a4)) - 48))), .val (.int a4)]) dTxt_number_26 rfl rfl ?_
    refine MW.iinc (c := 1) (ls' := [.val (.ref 28), .val (.int a1), .val (.int a2), .val (.int ((a3 * 10) + ((mem 29 (Int32.toNatClampNeg a4)) - 48))), .val (.int (a4 + 1))]) dTxt_number_27 (by decide) rfl rfl ?_
    refine QW.goto (tgt := 5) dTxt_number_30 (by decide) ?_
    exact (k3 z0)
theorem dTok_split_0 : decode mTok_split.2.1 0 = .ok (.aload_n 0, 1) := by decide +kernel
theorem dTok_split_1 : decode mTok_split.2.1 1 = .ok (.iconst 0, 1) := by decide +kernel
theorem dTok_split_2 : decode mTok_split.2.1 2 = .ok (.putfield 21, 3) := by decide +kernel
theorem dTok_split_5 : decode mTok_split.2.1 5 = .ok (.aload_n 0, 1) := by decide +kernel
theorem dTok_split_6 : decode mTok_split.2.1 6 = .ok (.iconst 0, 1) := by decide +kernel
theorem dTok_split_7 : decode mTok_split.2.1 7 = .ok (.putfield 25, 3) := by decide +kernel
theorem dTok_split_10 : decode mTok_split.2.1 10 = .ok (.iconst 0, 1) := by decide +kernel
theorem dTok_split_11 : decode mTok_split.2.1 11 = .ok (.istore_n 2, 1) := by decide +kernel
theorem dTok_split_12 : decode mTok_split.2.1 12 = .ok (.iconst 0, 1) := by decide +kernel
theorem dTok_split_13 : decode mTok_split.2.1 13 = .ok (.istore_n 3, 1) := by decide +kernel
theorem dTok_split_14 : decode mTok_split.2.1 14 = .ok (.iload_n 3, 1) := by decide +kernel
theorem dTok_split_15 : decode mTok_split.2.1 15 = .ok (.aload_n 1, 1) := by decide +kernel
theorem dTok_split_16 : decode mTok_split.2.1 16 = .ok (.getfield 28, 3) := by decide +kernel
theorem dTok_split_19 : decode mTok_split.2.1 19 = .ok (.if_icmp .ge 32, 3) := by decide +kernel
theorem dTok_split_22 : decode mTok_split.2.1 22 = .ok (.iload_n 3, 1) := by decide +kernel
theorem dTok_split_23 : decode mTok_split.2.1 23 = .ok (.iload_n 2, 1) := by decide +kernel
theorem dTok_split_24 : decode mTok_split.2.1 24 = .ok (.if_icmp .lt 21, 3) := by decide +kernel
theorem dTok_split_27 : decode mTok_split.2.1 27 = .ok (.aload_n 1, 1) := by decide +kernel
theorem dTok_split_28 : decode mTok_split.2.1 28 = .ok (.getfield 33, 3) := by decide +kernel
theorem dTok_split_31 : decode mTok_split.2.1 31 = .ok (.iload_n 3, 1) := by decide +kernel
theorem dTok_split_32 : decode mTok_split.2.1 32 = .ok (.caload, 1) := by decide +kernel
theorem dTok_split_33 : decode mTok_split.2.1 33 = .ok (.bipush 32, 2) := by decide +kernel
theorem dTok_split_35 : decode mTok_split.2.1 35 = .ok (.if_icmp .eq 10, 3) := by decide +kernel
theorem dTok_split_38 : decode mTok_split.2.1 38 = .ok (.aload_n 0, 1) := by decide +kernel
theorem dTok_split_39 : decode mTok_split.2.1 39 = .ok (.aload_n 1, 1) := by decide +kernel
theorem dTok_split_40 : decode mTok_split.2.1 40 = .ok (.iload_n 3, 1) := by decide +kernel
theorem dTok_split_41 : decode mTok_split.2.1 41 = .ok (.invokevirtual 37, 3) := by decide +kernel
theorem dTok_split_44 : decode mTok_split.2.1 44 = .ok (.istore_n 2, 1) := by decide +kernel
theorem dTok_split_45 : decode mTok_split.2.1 45 = .ok (.iinc 3 1, 3) := by decide +kernel
theorem dTok_split_48 : decode mTok_split.2.1 48 = .ok (.goto (-34), 3) := by decide +kernel
theorem dTok_split_51 : decode mTok_split.2.1 51 = .ok (.aload_n 0, 1) := by decide +kernel
theorem dTok_split_52 : decode mTok_split.2.1 52 = .ok (.iconst 0, 1) := by decide +kernel
theorem dTok_split_53 : decode mTok_split.2.1 53 = .ok (.aload_n 1, 1) := by decide +kernel
theorem dTok_split_54 : decode mTok_split.2.1 54 = .ok (.getfield 28, 3) := by decide +kernel
theorem dTok_split_57 : decode mTok_split.2.1 57 = .ok (.iconst 0, 1) := by decide +kernel
theorem dTok_split_58 : decode mTok_split.2.1 58 = .ok (.invokevirtual 41, 3) := by decide +kernel
theorem dTok_split_61 : decode mTok_split.2.1 61 = .ok (.return_, 1) := by decide +kernel
def lTok_split_14 (a2 : Int32) (a3 : Int32) : List Slot := [.val (.ref 31), .val (.ref 28), .val (.int a2), .val (.int a3)]
def lTok_split_44 (a2 : Int32) (a3 : Int32) : List Slot := [.val (.ref 31), .val (.ref 28), .val (.int a2), .val (.int a3)]
def lTok_split_61 (a2 : Int32) (a3 : Int32) : List Slot := [.val (.ref 31), .val (.ref 28), .val (.int a2), .val (.int a3)]
theorem bTok_split_0 (hX : X.length = 13) (k1 : QW d mTok_split 14 (lTok_split_14 0 0) [] (hpo X (mup (mup mem 31 3 0) 31 4 0) sw o e) P) : QW d mTok_split 0 (qen 4 [.ref 31, .ref 28]) [] (hpo X mem sw o e) P := by
  show QW d mTok_split 0 [.val (.ref 31), .val (.ref 28), .unset, .unset] [] (hpo X mem sw o e) P
  refine QW.aload_n dTok_split_0 rfl rfl ?_
  refine QW.iconst (v := 0) dTok_split_1 (by decide) ?_
  refine MW.puti hX dTok_split_2 fTok_21 rfl rfl rfl ?_
  refine QW.aload_n dTok_split_5 rfl rfl ?_
  refine QW.iconst (v := 0) dTok_split_6 (by decide) ?_
  refine MW.puti hX dTok_split_7 fTok_25 rfl rfl rfl ?_
  refine QW.iconst (v := 0) dTok_split_10 (by decide) ?_
  refine QW.istore_n (ls' := [.val (.ref 31), .val (.ref 28), .val (.int 0), .unset]) dTok_split_11 rfl rfl ?_
  refine QW.iconst (v := 0) dTok_split_12 (by decide) ?_
  refine QW.istore_n (ls' := [.val (.ref 31), .val (.ref 28), .val (.int 0), .val (.int 0)]) dTok_split_13 rfl rfl ?_
  exact k1
theorem bTok_split_14 {a2 : Int32} {a3 : Int32} (hX : X.length = 13) (k1 : ((mem 28 1) ≤ a3) → QW d mTok_put 0 (qen 4 [.ref 31, .int 0, .int (mem 28 1), .int 0]) [] (hpo X mem sw o e) (qcl d mTok_split 58 61 (lTok_split_61 a2 a3) [] P)) (k2 : (¬ (mem 28 1) ≤ a3) → (a3 < a2) → QW (d + 1) mTok_split 14 (lTok_split_14 a2 (a3 + 1)) [] (hpo X mem sw o e) P) (h3 : (¬ (mem 28 1) ≤ a3) → (¬ a3 < a2) → inx a3 200) (k4 : (¬ (mem 28 1) ≤ a3) → (¬ a3 < a2) → ((mem 29 (Int32.toNatClampNeg a3)) = 32) → QW (d + 1) mTok_split 14 (lTok_split_14 a2 (a3 + 1)) [] (hpo X mem sw o e) P) (k5 : (¬ (mem 28 1) ≤ a3) → (¬ a3 < a2) → (¬ (mem 29 (Int32.toNatClampNeg a3)) = 32) → QW d mTok_addToken 0 (qen 6 [.ref 31, .ref 28, .int a3]) [] (hpo X mem sw o e) (qcl d mTok_split 41 44 (lTok_split_44 a2 a3) [] P)) : QW (d + 1) mTok_split 14 (lTok_split_14 a2 a3) [] (hpo X mem sw o e) P := by
  show QW (d + 1) mTok_split 14 [.val (.ref 31), .val (.ref 28), .val (.int a2), .val (.int a3)] [] (hpo X mem sw o e) P
  refine QW.iload_n dTok_split_14 rfl rfl ?_
  refine QW.aload_n dTok_split_15 rfl rfl ?_
  refine MW.geti hX dTok_split_16 fTok_28 rfl rfl ?_
  refine QW.icmp_ge (tgt := 51) dTok_split_19 (by decide) (fun z0 => ?_) (fun z0 => ?_)
  · refine QW.aload_n dTok_split_51 rfl rfl ?_
    refine QW.iconst (v := 0) dTok_split_52 (by decide) ?_
    refine QW.aload_n dTok_split_53 rfl rfl ?_
    refine MW.geti hX dTok_split_54 fTok_28 rfl rfl ?_
    refine QW.iconst (v := 0) dTok_split_57 (by decide) ?_
    exact MW.calV (as := [.int 0, .int (mem 28 1), .int 0]) (rest := []) hX dTok_split_58 eTok_put lTok_41 iTok_put vTok_put rfl rfl rfl rfl rfl rfl (Nat.le_of_ble_eq_true rfl) rfl (k1 z0)
  · refine QW.iload_n dTok_split_22 rfl rfl ?_
    refine QW.iload_n dTok_split_23 rfl rfl ?_
    refine QW.icmp_lt (tgt := 45) dTok_split_24 (by decide) (fun z1 => ?_) (fun z1 => ?_)
    · refine MW.iinc (c := 1) (ls' := [.val (.ref 31), .val (.ref 28), .val (.int a2), .val (.int (a3 + 1))]) dTok_split_45 (by decide) rfl rfl ?_
      refine QW.goto (tgt := 14) dTok_split_48 (by decide) ?_
      exact (k2 z0 z1)
    · refine QW.aload_n dTok_split_27 rfl rfl ?_
      refine MW.getr (r' := 29) hX dTok_split_28 fTok_33 rfl rfl (by cases sw <;> rfl) ?_
      refine QW.iload_n dTok_split_31 rfl rfl ?_
      refine MW.cald hX dTok_split_32 rfl (h3 z0 z1).1 (rep_get (h3 z0 z1).2) ?_
      refine QW.bipush (v := 32) dTok_split_33 (by decide) ?_
      refine QW.icmp_eq (tgt := 45) dTok_split_35 (by decide) (fun z2 => ?_) (fun z2 => ?_)
      · refine MW.iinc (c := 1) (ls' := [.val (.ref 31), .val (.ref 28), .val (.int a2), .val (.int (a3 + 1))]) dTok_split_45 (by decide) rfl rfl ?_
        refine QW.goto (tgt := 14) dTok_split_48 (by decide) ?_
        exact (k4 z0 z1 z2)
      · refine QW.aload_n dTok_split_38 rfl rfl ?_
        refine QW.aload_n dTok_split_39 rfl rfl ?_
        refine QW.iload_n dTok_split_40 rfl rfl ?_
        exact MW.calV (as := [.ref 28, .int a3]) (rest := []) hX dTok_split_41 eTok_addToken lTok_37 iTok_addToken vTok_addToken rfl rfl rfl rfl rfl rfl (Nat.le_of_ble_eq_true rfl) rfl (k5 z0 z1 z2)
theorem bTok_split_44 {a2 : Int32} {a3 : Int32} {s0 : Int32} (hX : X.length = 13) (k1 : QW d mTok_split 14 (lTok_split_14 s0 (a3 + 1)) [] (hpo X mem sw o e) P) : QW d mTok_split 44 (lTok_split_44 a2 a3) [.int s0] (hpo X mem sw o e) P := by
  show QW d mTok_split 44 [.val (.ref 31), .val (.ref 28), .val (.int a2), .val (.int a3)] [.int s0] (hpo X mem sw o e) P
  refine QW.istore_n (ls' := [.val (.ref 31), .val (.ref 28), .val (.int s0), .val (.int a3)]) dTok_split_44 rfl rfl ?_
  refine MW.iinc (c := 1) (ls' := [.val (.ref 31), .val (.ref 28), .val (.int s0), .val (.int (a3 + 1))]) dTok_split_45 (by decide) rfl rfl ?_
  refine QW.goto (tgt := 14) dTok_split_48 (by decide) ?_
  exact k1
theorem bTok_split_61 {a2 : Int32} {a3 : Int32} (hX : X.length = 13) (k1 : P (.inl none, (hpo X mem sw o e))) : QW d mTok_split 61 (lTok_split_61 a2 a3) [] (hpo X mem sw o e) P := by
  show QW d mTok_split 61 [.val (.ref 31), .val (.ref 28), .val (.int a2), .val (.int a3)] [] (hpo X mem sw o e) P
  exact QW.vret dTok_split_61 rfl k1
theorem dTok_put_0 : decode mTok_put.2.1 0 = .ok (.aload_n 0, 1) := by decide +kernel
theorem dTok_put_1 : decode mTok_put.2.1 1 = .ok (.getfield 9, 3) := by decide +kernel
theorem dTok_put_4 : decode mTok_put.2.1 4 = .ok (.aload_n 0, 1) := by decide +kernel
theorem dTok_put_5 : decode mTok_put.2.1 5 = .ok (.getfield 21, 3) := by decide +kernel
theorem dTok_put_8 : decode mTok_put.2.1 8 = .ok (.iload_n 1, 1) := by decide +kernel
theorem dTok_put_9 : decode mTok_put.2.1 9 = .ok (.iastore, 1) := by decide +kernel
theorem dTok_put_10 : decode mTok_put.2.1 10 = .ok (.aload_n 0, 1) := by decide +kernel
theorem dTok_put_11 : decode mTok_put.2.1 11 = .ok (.getfield 15, 3) := by decide +kernel
theorem dTok_put_14 : decode mTok_put.2.1 14 = .ok (.aload_n 0, 1) := by decide +kernel
theorem dTok_put_15 : decode mTok_put.2.1 15 = .ok (.getfield 21, 3) := by decide +kernel
theorem dTok_put_18 : decode mTok_put.2.1 18 = .ok (.iload_n 2, 1) := by decide +kernel
theorem dTok_put_19 : decode mTok_put.2.1 19 = .ok (.iastore, 1) := by decide +kernel
theorem dTok_put_20 : decode mTok_put.2.1 20 = .ok (.aload_n 0, 1) := by decide +kernel
theorem dTok_put_21 : decode mTok_put.2.1 21 = .ok (.getfield 18, 3) := by decide +kernel
theorem dTok_put_24 : decode mTok_put.2.1 24 = .ok (.aload_n 0, 1) := by decide +kernel
theorem dTok_put_25 : decode mTok_put.2.1 25 = .ok (.getfield 21, 3) := by decide +kernel
theorem dTok_put_28 : decode mTok_put.2.1 28 = .ok (.iload_n 3, 1) := by decide +kernel
theorem dTok_put_29 : decode mTok_put.2.1 29 = .ok (.iastore, 1) := by decide +kernel
theorem dTok_put_30 : decode mTok_put.2.1 30 = .ok (.aload_n 0, 1) := by decide +kernel
theorem dTok_put_31 : decode mTok_put.2.1 31 = .ok (.dup, 1) := by decide +kernel
theorem dTok_put_32 : decode mTok_put.2.1 32 = .ok (.getfield 21, 3) := by decide +kernel
theorem dTok_put_35 : decode mTok_put.2.1 35 = .ok (.iconst 1, 1) := by decide +kernel
theorem dTok_put_36 : decode mTok_put.2.1 36 = .ok (.iadd, 1) := by decide +kernel
theorem dTok_put_37 : decode mTok_put.2.1 37 = .ok (.putfield 21, 3) := by decide +kernel
theorem dTok_put_40 : decode mTok_put.2.1 40 = .ok (.return_, 1) := by decide +kernel
theorem bTok_put_0 {a1 : Int32} {a2 : Int32} {a3 : Int32} (hX : X.length = 13) (h1 : inx (mem 31 3) 201) (h2 : inx ((mup mem 32 (Int32.toNatClampNeg (mem 31 3)) a1) 31 3) 201) (h3 : inx ((mup (mup mem 32 (Int32.toNatClampNeg (mem 31 3)) a1) 33 (Int32.toNatClampNeg ((mup mem 32 (Int32.toNatClampNeg (mem 31 3)) a1) 31 3)) a2) 31 3) 201) (k4 : P (.inl none, (hpo X (mup (mup (mup (mup mem 32 (Int32.toNatClampNeg (mem 31 3)) a1) 33 (Int32.toNatClampNeg ((mup mem 32 (Int32.toNatClampNeg (mem 31 3)) a1) 31 3)) a2) 34 (Int32.toNatClampNeg ((mup (mup mem 32 (Int32.toNatClampNeg (mem 31 3)) a1) 33 (Int32.toNatClampNeg ((mup mem 32 (Int32.toNatClampNeg (mem 31 3)) a1) 31 3)) a2) 31 3)) a3) 31 3 (((mup (mup (mup mem 32 (Int32.toNatClampNeg (mem 31 3)) a1) 33 (Int32.toNatClampNeg ((mup mem 32 (Int32.toNatClampNeg (mem 31 3)) a1) 31 3)) a2) 34 (Int32.toNatClampNeg ((mup (mup mem 32 (Int32.toNatClampNeg (mem 31 3)) a1) 33 (Int32.toNatClampNeg ((mup mem 32 (Int32.toNatClampNeg (mem 31 3)) a1) 31 3)) a2) 31 3)) a3) 31 3) + 1)) sw o e))) : QW d mTok_put 0 (qen 4 [.ref 31, .int a1, .int a2, .int a3]) [] (hpo X mem sw o e) P := by
  show QW d mTok_put 0 [.val (.ref 31), .val (.int a1), .val (.int a2), .val (.int a3)] [] (hpo X mem sw o e) P
  refine QW.aload_n dTok_put_0 rfl rfl ?_
  refine MW.getr (r' := 32) hX dTok_put_1 fTok_9 rfl rfl (by cases sw <;> rfl) ?_
  refine QW.aload_n dTok_put_4 rfl rfl ?_
  refine MW.geti hX dTok_put_5 fTok_21 rfl rfl ?_
  refine QW.iload_n dTok_put_8 rfl rfl ?_
  refine MW.iast hX dTok_put_9 rfl h1.1 (rep_get h1.2) ?_
  refine QW.aload_n dTok_put_10 rfl rfl ?_
  refine MW.getr (r' := 33) hX dTok_put_11 fTok_15 rfl rfl (by cases sw <;> rfl) ?_
  refine QW.aload_n dTok_put_14 rfl rfl ?_
  refine MW.geti hX dTok_put_15 fTok_21 rfl rfl ?_
  refine QW.iload_n dTok_put_18 rfl rfl ?_
  refine MW.iast hX dTok_put_19 rfl h2.1 (rep_get h2.2) ?_
  refine QW.aload_n dTok_put_20 rfl rfl ?_
  refine MW.getr (r' := 34) hX dTok_put_21 fTok_18 rfl rfl (by cases sw <;> rfl) ?_
  refine QW.aload_n dTok_put_24 rfl rfl ?_
  refine MW.geti hX dTok_put_25 fTok_21 rfl rfl ?_
  refine QW.iload_n dTok_put_28 rfl rfl ?_
  refine MW.iast hX dTok_put_29 rfl h3.1 (rep_get h3.2) ?_
  refine QW.aload_n dTok_put_30 rfl rfl ?_
  refine QW.dup dTok_put_31 rfl ?_
  refine MW.geti hX dTok_put_32 fTok_21 rfl rfl ?_
  refine QW.iconst (v := 1) dTok_put_35 (by decide) ?_
  refine QW.iadd dTok_put_36 ?_
  refine MW.puti hX dTok_put_37 fTok_21 rfl rfl rfl ?_
  exact QW.vret dTok_put_40 rfl k4
theorem dTok_is_0 : decode mTok_is.2.1 0 = .ok (.aload_n 0, 1) := by decide +kernel
theorem dTok_is_1 : decode mTok_is.2.1 1 = .ok (.getfield 9, 3) := by decide +kernel
theorem dTok_is_4 : decode mTok_is.2.1 4 = .ok (.aload_n 0, 1) := by decide +kernel
theorem dTok_is_5 : decode mTok_is.2.1 5 = .ok (.getfield 25, 3) := by decide +kernel
theorem dTok_is_8 : decode mTok_is.2.1 8 = .ok (.iaload, 1) := by decide +kernel
theorem dTok_is_9 : decode mTok_is.2.1 9 = .ok (.iload_n 1, 1) := by decide +kernel
theorem dTok_is_10 : decode mTok_is.2.1 10 = .ok (.if_icmp .ne 7, 3) := by decide +kernel
theorem dTok_is_13 : decode mTok_is.2.1 13 = .ok (.iconst 1, 1) := by decide +kernel
theorem dTok_is_14 : decode mTok_is.2.1 14 = .ok (.goto 4, 3) := by decide +kernel
theorem dTok_is_17 : decode mTok_is.2.1 17 = .ok (.iconst 0, 1) := by decide +kernel
theorem dTok_is_18 : decode mTok_is.2.1 18 = .ok (.ireturn, 1) := by decide +kernel
theorem bTok_is_0 {a1 : Int32} (hX : X.length = 13) (h1 : inx (mem 31 4) 201) (k2 : (¬ (mem 32 (Int32.toNatClampNeg (mem 31 4))) = a1) → P (.inl (some (.int 0)), (hpo X mem sw o e))) (k3 : ((mem 32 (Int32.toNatClampNeg (mem 31 4))) = a1) → P (.inl (some (.int 1)), (hpo X mem sw o e))) : QW d mTok_is 0 (qen 2 [.ref 31, .int a1]) [] (hpo X mem sw o e) P := by
  show QW d mTok_is 0 [.val (.ref 31), .val (.int a1)] [] (hpo X mem sw o e) P
  refine QW.aload_n dTok_is_0 rfl rfl ?_
  refine MW.getr (r' := 32) hX dTok_is_1 fTok_9 rfl rfl (by cases sw <;> rfl) ?_
  refine QW.aload_n dTok_is_4 rfl rfl ?_
  refine MW.geti hX dTok_is_5 fTok_25 rfl rfl ?_
  refine MW.iald hX dTok_is_8 rfl h1.1 (rep_get h1.2) ?_
  refine QW.iload_n dTok_is_9 rfl rfl ?_
  refine QW.icmp_ne (tgt := 17) dTok_is_10 (by decide) (fun z0 => ?_) (fun z0 => ?_)
  · refine QW.iconst (v := 0) dTok_is_17 (by decide) ?_
    exact QW.iret dTok_is_18 rfl rfl (k2 z0)
  · refine QW.iconst (v := 1) dTok_is_13 (by decide) ?_
    refine QW.goto (tgt := 18) dTok_is_14 (by decide) ?_
    exact QW.iret dTok_is_18 rfl rfl (k3 z0)
theorem dTok_kind_0 : decode mTok_kind.2.1 0 = .ok (.aload_n 0, 1) := by decide +kernel
theorem dTok_kind_1 : decode mTok_kind.2.1 1 = .ok (.getfield 9, 3) := by decide +kernel
theorem dTok_kind_4 : decode mTok_kind.2.1 4 = .ok (.aload_n 0, 1) := by decide +kernel
theorem dTok_kind_5 : decode mTok_kind.2.1 5 = .ok (.getfield 25, 3) := by decide +kernel
theorem dTok_kind_8 : decode mTok_kind.2.1 8 = .ok (.iaload, 1) := by decide +kernel
theorem dTok_kind_9 : decode mTok_kind.2.1 9 = .ok (.ireturn, 1) := by decide +kernel
theorem bTok_kind_0 (hX : X.length = 13) (h1 : inx (mem 31 4) 201) (k2 : P (.inl (some (.int (mem 32 (Int32.toNatClampNeg (mem 31 4))))), (hpo X mem sw o e))) : QW d mTok_kind 0 (qen 1 [.ref 31]) [] (hpo X mem sw o e) P := by
  show QW d mTok_kind 0 [.val (.ref 31)] [] (hpo X mem sw o e) P
  refine QW.aload_n dTok_kind_0 rfl rfl ?_
  refine MW.getr (r' := 32) hX dTok_kind_1 fTok_9 rfl rfl (by cases sw <;> rfl) ?_
  refine QW.aload_n dTok_kind_4 rfl rfl ?_
  refine MW.geti hX dTok_kind_5 fTok_25 rfl rfl ?_
  refine MW.iald hX dTok_kind_8 rfl h1.1 (rep_get h1.2) ?_
  exact QW.iret dTok_kind_9 rfl rfl k2
theorem dTok_start_0 : decode mTok_start.2.1 0 = .ok (.aload_n 0, 1) := by decide +kernel
theorem dTok_start_1 : decode mTok_start.2.1 1 = .ok (.getfield 15, 3) := by decide +kernel
theorem dTok_start_4 : decode mTok_start.2.1 4 = .ok (.aload_n 0, 1) := by decide +kernel
theorem dTok_start_5 : decode mTok_start.2.1 5 = .ok (.getfield 25, 3) := by decide +kernel
theorem dTok_start_8 : decode mTok_start.2.1 8 = .ok (.iaload, 1) := by decide +kernel
theorem dTok_start_9 : decode mTok_start.2.1 9 = .ok (.ireturn, 1) := by decide +kernel
theorem bTok_start_0 (hX : X.length = 13) (h1 : inx (mem 31 4) 201) (k2 : P (.inl (some (.int (mem 33 (Int32.toNatClampNeg (mem 31 4))))), (hpo X mem sw o e))) : QW d mTok_start 0 (qen 1 [.ref 31]) [] (hpo X mem sw o e) P := by
  show QW d mTok_start 0 [.val (.ref 31)] [] (hpo X mem sw o e) P
  refine QW.aload_n dTok_start_0 rfl rfl ?_
  refine MW.getr (r' := 33) hX dTok_start_1 fTok_15 rfl rfl (by cases sw <;> rfl) ?_
  refine QW.aload_n dTok_start_4 rfl rfl ?_
  refine MW.geti hX dTok_start_5 fTok_25 rfl rfl ?_
  refine MW.iald hX dTok_start_8 rfl h1.1 (rep_get h1.2) ?_
  exact QW.iret dTok_start_9 rfl rfl k2
theorem dTok_value_0 : decode mTok_value.2.1 0 = .ok (.aload_n 0, 1) := by decide +kernel
theorem dTok_value_1 : decode mTok_value.2.1 1 = .ok (.getfield 18, 3) := by decide +kernel
theorem dTok_value_4 : decode mTok_value.2.1 4 = .ok (.aload_n 0, 1) := by decide +kernel
theorem dTok_value_5 : decode mTok_value.2.1 5 = .ok (.getfield 25, 3) := by decide +kernel
theorem dTok_value_8 : decode mTok_value.2.1 8 = .ok (.iaload, 1) := by decide +kernel
theorem dTok_value_9 : decode mTok_value.2.1 9 = .ok (.ireturn, 1) := by decide +kernel
theorem bTok_value_0 (hX : X.length = 13) (h1 : inx (mem 31 4) 201) (k2 : P (.inl (some (.int (mem 34 (Int32.toNatClampNeg (mem 31 4))))), (hpo X mem sw o e))) : QW d mTok_value 0 (qen 1 [.ref 31]) [] (hpo X mem sw o e) P := by
  show QW d mTok_value 0 [.val (.ref 31)] [] (hpo X mem sw o e) P
  refine QW.aload_n dTok_value_0 rfl rfl ?_
  refine MW.getr (r' := 34) hX dTok_value_1 fTok_18 rfl rfl (by cases sw <;> rfl) ?_
  refine QW.aload_n dTok_value_4 rfl rfl ?_
  refine MW.geti hX dTok_value_5 fTok_25 rfl rfl ?_
  refine MW.iald hX dTok_value_8 rfl h1.1 (rep_get h1.2) ?_
  exact QW.iret dTok_value_9 rfl rfl k2
theorem dTok_take_0 : decode mTok_take.2.1 0 = .ok (.aload_n 0, 1) := by decide +kernel
theorem dTok_take_1 : decode mTok_take.2.1 1 = .ok (.getfield 9, 3) := by decide +kernel
theorem dTok_take_4 : decode mTok_take.2.1 4 = .ok (.aload_n 0, 1) := by decide +kernel
theorem dTok_take_5 : decode mTok_take.2.1 5 = .ok (.getfield 25, 3) := by decide +kernel
theorem dTok_take_8 : decode mTok_take.2.1 8 = .ok (.iaload, 1) := by decide +kernel
theorem dTok_take_9 : decode mTok_take.2.1 9 = .ok (.iload_n 1, 1) := by decide +kernel
theorem dTok_take_10 : decode mTok_take.2.1 10 = .ok (.if_icmp .eq 5, 3) := by decide +kernel
theorem dTok_take_13 : decode mTok_take.2.1 13 = .ok (.iconst 0, 1) := by decide +kernel
theorem dTok_take_14 : decode mTok_take.2.1 14 = .ok (.ireturn, 1) := by decide +kernel
theorem dTok_take_15 : decode mTok_take.2.1 15 = .ok (.aload_n 0, 1) := by decide +kernel
theorem dTok_take_16 : decode mTok_take.2.1 16 = .ok (.getfield 25, 3) := by decide +kernel
theorem dTok_take_19 : decode mTok_take.2.1 19 = .ok (.iconst 1, 1) := by decide +kernel
theorem dTok_take_20 : decode mTok_take.2.1 20 = .ok (.iadd, 1) := by decide +kernel
theorem dTok_take_21 : decode mTok_take.2.1 21 = .ok (.aload_n 0, 1) := by decide +kernel
theorem dTok_take_22 : decode mTok_take.2.1 22 = .ok (.getfield 21, 3) := by decide +kernel
theorem dTok_take_25 : decode mTok_take.2.1 25 = .ok (.if_icmp .ge 13, 3) := by decide +kernel
theorem dTok_take_28 : decode mTok_take.2.1 28 = .ok (.aload_n 0, 1) := by decide +kernel
theorem dTok_take_29 : decode mTok_take.2.1 29 = .ok (.dup, 1) := by decide +kernel
theorem dTok_take_30 : decode mTok_take.2.1 30 = .ok (.getfield 25, 3) := by decide +kernel
theorem dTok_take_33 : decode mTok_take.2.1 33 = .ok (.iconst 1, 1) := by decide +kernel
theorem dTok_take_34 : decode mTok_take.2.1 34 = .ok (.iadd, 1) := by decide +kernel
theorem dTok_take_35 : decode mTok_take.2.1 35 = .ok (.putfield 25, 3) := by decide +kernel
theorem dTok_take_38 : decode mTok_take.2.1 38 = .ok (.iconst 1, 1) := by decide +kernel
theorem dTok_take_39 : decode mTok_take.2.1 39 = .ok (.ireturn, 1) := by decide +kernel
theorem bTok_take_0 {a1 : Int32} (hX : X.length = 13) (h1 : inx (mem 31 4) 201) (k2 : ((mem 32 (Int32.toNatClampNeg (mem 31 4))) = a1) → ((mem 31 3) ≤ ((mem 31 4) + 1)) → P (.inl (some (.int 1)), (hpo X mem sw o e))) (k3 : ((mem 32 (Int32.toNatClampNeg (mem 31 4))) = a1) → (¬ (mem 31 3) ≤ ((mem 31 4) + 1)) → P (.inl (some (.int 1)), (hpo X (mup mem 31 4 ((mem 31 4) + 1)) sw o e))) (k4 : (¬ (mem 32 (Int32.toNatClampNeg (mem 31 4))) = a1) → P (.inl (some (.int 0)), (hpo X mem sw o e))) : QW d mTok_take 0 (qen 2 [.ref 31, .int a1]) [] (hpo X mem sw o e) P := by
  show QW d mTok_take 0 [.val (.ref 31), .val (.int a1)] [] (hpo X mem sw o e) P
  refine QW.aload_n dTok_take_0 rfl rfl ?_
  refine MW.getr (r' := 32) hX dTok_take_1 fTok_9 rfl rfl (by cases sw <;> rfl) ?_
  refine QW.aload_n dTok_take_4 rfl rfl ?_
  refine MW.geti hX dTok_take_5 fTok_25 rfl rfl ?_
  refine MW.iald hX dTok_take_8 rfl h1.1 (rep_get h1.2) ?_
  refine QW.iload_n dTok_take_9 rfl rfl ?_
  refine QW.icmp_eq (tgt := 15) dTok_take_10 (by decide) (fun z0 => ?_) (fun z0 => ?_)
  · refine QW.aload_n dTok_take_15 rfl rfl ?_
    refine MW.geti hX dTok_take_16 fTok_25 rfl rfl ?_
    refine QW.iconst (v := 1) dTok_take_19 (by decide) ?_
    refine QW.iadd dTok_take_20 ?_
    refine QW.aload_n dTok_take_21 rfl rfl ?_
    refine MW.geti hX dTok_take_22 fTok_21 rfl rfl ?_
    refine QW.icmp_ge (tgt := 38) dTok_take_25 (by decide) (fun z1 => ?_) (fun z1 => ?_)
    · refine QW.iconst (v := 1) dTok_take_38 (by decide) ?_
      exact QW.iret dTok_take_39 rfl rfl (k2 z0 z1)
    · refine QW.aload_n dTok_take_28 rfl rfl ?_
      refine QW.dup dTok_take_29 rfl ?_
      refine MW.geti hX dTok_take_30 fTok_25 rfl rfl ?_
      refine QW.iconst (v := 1) dTok_take_33 (by decide) ?_
      refine QW.iadd dTok_take_34 ?_
      refine MW.puti hX dTok_take_35 fTok_25 rfl rfl rfl ?_
      refine QW.iconst (v := 1) dTok_take_38 (by decide) ?_
      exact QW.iret dTok_take_39 rfl rfl (k3 z0 z1)
  · refine QW.iconst (v := 0) dTok_take_13 (by decide) ?_
    exact QW.iret dTok_take_14 rfl rfl (k4 z0)
end BLK

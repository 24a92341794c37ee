section BLK
variable {d : Nat} {P : qE → Prop} {X : qH} {mem : Nat → Nat → Int32} {sw : Bool} {o : Int64} {e : List Nat}
theorem dMo_wipe_0 : decode mMo_wipe.2.1 0 = .ok (.aload_n 0, 1) := by decide +kernel
theorem dMo_wipe_1 : decode mMo_wipe.2.1 1 = .ok (.iconst 0, 1) := by decide +kernel
theorem dMo_wipe_2 : decode mMo_wipe.2.1 2 = .ok (.putfield 106, 3) := by decide +kernel
theorem dMo_wipe_5 : decode mMo_wipe.2.1 5 = .ok (.aload_n 0, 1) := by decide +kernel
theorem dMo_wipe_6 : decode mMo_wipe.2.1 6 = .ok (.getfield 122, 3) := by decide +kernel
theorem dMo_wipe_9 : decode mMo_wipe.2.1 9 = .ok (.istore_n 1, 1) := by decide +kernel
theorem dMo_wipe_10 : decode mMo_wipe.2.1 10 = .ok (.aload_n 0, 1) := by decide +kernel
theorem dMo_wipe_11 : decode mMo_wipe.2.1 11 = .ok (.iconst 0, 1) := by decide +kernel
theorem dMo_wipe_12 : decode mMo_wipe.2.1 12 = .ok (.putfield 122, 3) := by decide +kernel
theorem dMo_wipe_15 : decode mMo_wipe.2.1 15 = .ok (.iload_n 1, 1) := by decide +kernel
theorem dMo_wipe_16 : decode mMo_wipe.2.1 16 = .ok (.ireturn, 1) := by decide +kernel
theorem bMo_wipe_0 (hX : X.length = 13) (k1 : P (.inl (some (.int ((mup mem 193 0 0) 193 6))), (hpo X (mup (mup mem 193 0 0) 193 6 0) sw o e))) : QW d mMo_wipe 0 (qen 2 [.ref 193]) [] (hpo X mem sw o e) P := by
  show QW d mMo_wipe 0 [.val (.ref 193), .unset] [] (hpo X mem sw o e) P
  refine QW.aload_n dMo_wipe_0 rfl rfl ?_
  refine QW.iconst (v := 0) dMo_wipe_1 (by decide) ?_
  refine MW.puti hX dMo_wipe_2 fMo_106 rfl rfl rfl ?_
  refine QW.aload_n dMo_wipe_5 rfl rfl ?_
  refine MW.geti hX dMo_wipe_6 fMo_122 rfl rfl ?_
  refine QW.istore_n (ls' := [.val (.ref 193), .val (.int ((mup mem 193 0 0) 193 6))]) dMo_wipe_9 rfl rfl ?_
  refine QW.aload_n dMo_wipe_10 rfl rfl ?_
  refine QW.iconst (v := 0) dMo_wipe_11 (by decide) ?_
  refine MW.puti hX dMo_wipe_12 fMo_122 rfl rfl rfl ?_
  refine QW.iload_n dMo_wipe_15 rfl rfl ?_
  exact QW.iret dMo_wipe_16 rfl rfl k1
theorem dMo_see_0 : decode mMo_see.2.1 0 = .ok (.iload_n 1, 1) := by decide +kernel
theorem dMo_see_1 : decode mMo_see.2.1 1 = .ok (.aload_n 0, 1) := by decide +kernel
theorem dMo_see_2 : decode mMo_see.2.1 2 = .ok (.getfield 122, 3) := by decide +kernel
theorem dMo_see_5 : decode mMo_see.2.1 5 = .ok (.if_icmp .ge 12, 3) := by decide +kernel
theorem dMo_see_8 : decode mMo_see.2.1 8 = .ok (.aload_n 0, 1) := by decide +kernel
theorem dMo_see_9 : decode mMo_see.2.1 9 = .ok (.getfield 23, 3) := by decide +kernel
theorem dMo_see_12 : decode mMo_see.2.1 12 = .ok (.iload_n 1, 1) := by decide +kernel
theorem dMo_see_13 : decode mMo_see.2.1 13 = .ok (.caload, 1) := by decide +kernel
theorem dMo_see_14 : decode mMo_see.2.1 14 = .ok (.goto 4, 3) := by decide +kernel
theorem dMo_see_17 : decode mMo_see.2.1 17 = .ok (.iconst 0, 1) := by decide +kernel
theorem dMo_see_18 : decode mMo_see.2.1 18 = .ok (.ireturn, 1) := by decide +kernel
theorem bMo_see_0 {a1 : Int32} (hX : X.length = 13) (k1 : ((mem 193 6) ≤ a1) → P (.inl (some (.int 0)), (hpo X mem sw o e))) (h2 : (¬ (mem 193 6) ≤ a1) → inx a1 200) (h3 : (¬ (mem 193 6) ≤ a1) → narrow .char (.int (mem 198 (Int32.toNatClampNeg a1))) = .int (mem 198 (Int32.toNatClampNeg a1))) (k4 : (¬ (mem 193 6) ≤ a1) → P (.inl (some (.int (mem 198 (Int32.toNatClampNeg a1)))), (hpo X mem sw o e))) : QW d mMo_see 0 (qen 2 [.ref 193, .int a1]) [] (hpo X mem sw o e) P := by
  show QW d mMo_see 0 [.val (.ref 193), .val (.int a1)] [] (hpo X mem sw o e) P
  refine QW.iload_n dMo_see_0 rfl rfl ?_
  refine QW.aload_n dMo_see_1 rfl rfl ?_
  refine MW.geti hX dMo_see_2 fMo_122 rfl rfl ?_
  refine QW.icmp_ge (tgt := 17) dMo_see_5 (by decide) (fun z0 => ?_) (fun z0 => ?_)
  · refine QW.iconst (v := 0) dMo_see_17 (by decide) ?_
    exact QW.iret dMo_see_18 rfl rfl (k1 z0)
  · refine QW.aload_n dMo_see_8 rfl rfl ?_
    refine MW.getr (r' := 198) hX dMo_see_9 fMo_23 rfl rfl (by cases sw <;> rfl) ?_
    refine QW.iload_n dMo_see_12 rfl rfl ?_
    refine MW.cald hX dMo_see_13 rfl (h2 z0).1 (rep_get (h2 z0).2) ?_
    refine QW.goto (tgt := 18) dMo_see_14 (by decide) ?_
    exact QW.iret dMo_see_18 rfl (h3 z0) (k4 z0)
theorem dMo_isSmall_0 : decode mMo_isSmall.2.1 0 = .ok (.iload_n 0, 1) := by decide +kernel
theorem dMo_isSmall_1 : decode mMo_isSmall.2.1 1 = .ok (.bipush 97, 2) := by decide +kernel
theorem dMo_isSmall_3 : decode mMo_isSmall.2.1 3 = .ok (.if_icmp .lt 13, 3) := by decide +kernel
theorem dMo_isSmall_6 : decode mMo_isSmall.2.1 6 = .ok (.iload_n 0, 1) := by decide +kernel
theorem dMo_isSmall_7 : decode mMo_isSmall.2.1 7 = .ok (.bipush 122, 2) := by decide +kernel
theorem dMo_isSmall_9 : decode mMo_isSmall.2.1 9 = .ok (.if_icmp .gt 7, 3) := by decide +kernel
theorem dMo_isSmall_12 : decode mMo_isSmall.2.1 12 = .ok (.iconst 1, 1) := by decide +kernel
theorem dMo_isSmall_13 : decode mMo_isSmall.2.1 13 = .ok (.goto 4, 3) := by decide +kernel
theorem dMo_isSmall_16 : decode mMo_isSmall.2.1 16 = .ok (.iconst 0, 1) := by decide +kernel
theorem dMo_isSmall_17 : decode mMo_isSmall.2.1 17 = .ok (.ireturn, 1) := by decide +kernel
theorem bMo_isSmall_0 {a0 : Int32} (hX : X.length = 13) (k1 : (a0 < 97) → P (.inl (some (.int 0)), (hpo X mem sw o e))) (k2 : (¬ a0 < 97) → (122 < a0) → P (.inl (some (.int 0)), (hpo X mem sw o e))) (k3 : (¬ a0 < 97) → (¬ 122 < a0) → P (.inl (some (.int 1)), (hpo X mem sw o e))) : QW d mMo_isSmall 0 (qen 1 [.int a0]) [] (hpo X mem sw o e) P := by
  show QW d mMo_isSmall 0 [.val (.int a0)] [] (hpo X mem sw o e) P
  refine QW.iload_n dMo_isSmall_0 rfl rfl ?_
  refine QW.bipush (v := 97) dMo_isSmall_1 (by decide) ?_
  refine QW.icmp_lt (tgt := 16) dMo_isSmall_3 (by decide) (fun z0 => ?_) (fun z0 => ?_)
  · refine QW.iconst (v := 0) dMo_isSmall_16 (by decide) ?_
    exact QW.iret dMo_isSmall_17 rfl rfl (k1 z0)
  · refine QW.iload_n dMo_isSmall_6 rfl rfl ?_
    refine QW.bipush (v := 122) dMo_isSmall_7 (by decide) ?_
    refine QW.icmp_gt (tgt := 16) dMo_isSmall_9 (by decide) (fun z1 => ?_) (fun z1 => ?_)
    · refine QW.iconst (v := 0) dMo_isSmall_16 (by decide) ?_
      exact QW.iret dMo_isSmall_17 rfl rfl (k2 z0 z1)
    · refine QW.iconst (v := 1) dMo_isSmall_12 (by decide) ?_
      refine QW.goto (tgt := 17) dMo_isSmall_13 (by decide) ?_
      exact QW.iret dMo_isSmall_17 rfl rfl (k3 z0 z1)
theorem dMo_isDigit_0 : decode mMo_isDigit.2.1 0 = .ok (.iload_n 0, 1) := by decide +kernel
theorem dMo_isDigit_1 : decode mMo_isDigit.2.1 1 = .ok (.bipush 48, 2) := by decide +kernel
theorem dMo_isDigit_3 : decode mMo_isDigit.2.1 3 = .ok (.if_icmp .lt 13, 3) := by decide +kernel
theorem dMo_isDigit_6 : decode mMo_isDigit.2.1 6 = .ok (.iload_n 0, 1) := by decide +kernel
theorem dMo_isDigit_7 : decode mMo_isDigit.2.1 7 = .ok (.bipush 57, 2) := by decide +kernel
theorem dMo_isDigit_9 : decode mMo_isDigit.2.1 9 = .ok (.if_icmp .gt 7, 3) := by decide +kernel
theorem dMo_isDigit_12 : decode mMo_isDigit.2.1 12 = .ok (.iconst 1, 1) := by decide +kernel
theorem dMo_isDigit_13 : decode mMo_isDigit.2.1 13 = .ok (.goto 4, 3) := by decide +kernel
theorem dMo_isDigit_16 : decode mMo_isDigit.2.1 16 = .ok (.iconst 0, 1) := by decide +kernel
theorem dMo_isDigit_17 : decode mMo_isDigit.2.1 17 = .ok (.ireturn, 1) := by decide +kernel
theorem bMo_isDigit_0 {a0 : Int32} (hX : X.length = 13) (k1 : (a0 < 48) → P (.inl (some (.int 0)), (hpo X mem sw o e))) (k2 : (¬ a0 < 48) → (57 < a0) → P (.inl (some (.int 0)), (hpo X mem sw o e))) (k3 : (¬ a0 < 48) → (¬ 57 < a0) → P (.inl (some (.int 1)), (hpo X mem sw o e))) : QW d mMo_isDigit 0 (qen 1 [.int a0]) [] (hpo X mem sw o e) P := by
  show QW d mMo_isDigit 0 [.val (.int a0)] [] (hpo X mem sw o e) P
  refine QW.iload_n dMo_isDigit_0 rfl rfl ?_
  refine QW.bipush (v := 48) dMo_isDigit_1 (by decide) ?_
  refine QW.icmp_lt (tgt := 16) dMo_isDigit_3 (by decide) (fun z0 => ?_) (fun z0 => ?_)
  · refine QW.iconst (v := 0) dMo_isDigit_16 (by decide) ?_
    exact QW.iret dMo_isDigit_17 rfl rfl (k1 z0)
  · refine QW.iload_n dMo_isDigit_6 rfl rfl ?_
    refine QW.bipush (v := 57) dMo_isDigit_7 (by decide) ?_
    refine QW.icmp_gt (tgt := 16) dMo_isDigit_9 (by decide) (fun z1 => ?_) (fun z1 => ?_)
    · refine QW.iconst (v := 0) dMo_isDigit_16 (by decide) ?_
      exact QW.iret dMo_isDigit_17 rfl rfl (k2 z0 z1)
    · refine QW.iconst (v := 1) dMo_isDigit_12 (by decide) ?_
      refine QW.goto (tgt := 17) dMo_isDigit_13 (by decide) ?_
      exact QW.iret dMo_isDigit_17 rfl rfl (k3 z0 z1)
theorem dMo_isSign_0 : decode mMo_isSign.2.1 0 = .ok (.iload_n 0, 1) := by decide +kernel
theorem dMo_isSign_1 : decode mMo_isSign.2.1 1 = .ok (.bipush 61, 2) := by decide +kernel
theorem dMo_isSign_3 : decode mMo_isSign.2.1 3 = .ok (.if_icmp .eq 39, 3) := by decide +kernel
theorem dMo_isSign_6 : decode mMo_isSign.2.1 6 = .ok (.iload_n 0, 1) := by decide +kernel
theorem dMo_isSign_7 : decode mMo_isSign.2.1 7 = .ok (.bipush 60, 2) := by decide +kernel
theorem dMo_isSign_9 : decode mMo_isSign.2.1 9 = .ok (.if_icmp .eq 33, 3) := by decide +kernel
theorem dMo_isSign_12 : decode mMo_isSign.2.1 12 = .ok (.iload_n 0, 1) := by decide +kernel
theorem dMo_isSign_13 : decode mMo_isSign.2.1 13 = .ok (.bipush 44, 2) := by decide +kernel
theorem dMo_isSign_15 : decode mMo_isSign.2.1 15 = .ok (.if_icmp .eq 27, 3) := by decide +kernel
theorem dMo_isSign_18 : decode mMo_isSign.2.1 18 = .ok (.iload_n 0, 1) := by decide +kernel
theorem dMo_isSign_19 : decode mMo_isSign.2.1 19 = .ok (.bipush 46, 2) := by decide +kernel
theorem dMo_isSign_21 : decode mMo_isSign.2.1 21 = .ok (.if_icmp .eq 21, 3) := by decide +kernel
theorem dMo_isSign_24 : decode mMo_isSign.2.1 24 = .ok (.iload_n 0, 1) := by decide +kernel
theorem dMo_isSign_25 : decode mMo_isSign.2.1 25 = .ok (.bipush 43, 2) := by decide +kernel
theorem dMo_isSign_27 : decode mMo_isSign.2.1 27 = .ok (.if_icmp .eq 15, 3) := by decide +kernel
theorem dMo_isSign_30 : decode mMo_isSign.2.1 30 = .ok (.iload_n 0, 1) := by decide +kernel
theorem dMo_isSign_31 : decode mMo_isSign.2.1 31 = .ok (.bipush 45, 2) := by decide +kernel
theorem dMo_isSign_33 : decode mMo_isSign.2.1 33 = .ok (.if_icmp .eq 9, 3) := by decide +kernel
theorem dMo_isSign_36 : decode mMo_isSign.2.1 36 = .ok (.iload_n 0, 1) := by decide +kernel
theorem dMo_isSign_37 : decode mMo_isSign.2.1 37 = .ok (.bipush 94, 2) := by decide +kernel
theorem dMo_isSign_39 : decode mMo_isSign.2.1 39 = .ok (.if_icmp .ne 7, 3) := by decide +kernel
theorem dMo_isSign_42 : decode mMo_isSign.2.1 42 = .ok (.iconst 1, 1) := by decide +kernel
theorem dMo_isSign_43 : decode mMo_isSign.2.1 43 = .ok (.goto 4, 3) := by decide +kernel
theorem dMo_isSign_46 : decode mMo_isSign.2.1 46 = .ok (.iconst 0, 1) := by decide +kernel
theorem dMo_isSign_47 : decode mMo_isSign.2.1 47 = .ok (.ireturn, 1) := by decide +kernel
def lMo_isSign_42 (a0 : Int32) : List Slot := [.val (.int a0)]
theorem bMo_isSign_0 {a0 : Int32} (hX : X.length = 13) (k1 : (a0 = 61) → QW d mMo_isSign 42 (lMo_isSign_42 a0) [] (hpo X mem sw o e) P) (k2 : (¬ a0 = 61) → (a0 = 60) → QW d mMo_isSign 42 (lMo_isSign_42 a0) [] (hpo X mem sw o e) P) (k3 : (¬ a0 = 61) → (¬ a0 = 60) → (a0 = 44) → QW d mMo_isSign 42 (lMo_isSign_42 a0) [] (hpo X mem sw o e) P) (k4 : (¬ a0 = 61) → (¬ a0 = 60) → (¬ a0 = 44) → (a0 = 46) → QW d mMo_isSign 42 (lMo_isSign_42 a0) [] (hpo X mem sw o e) P) (k5 : (¬ a0 = 61) → (¬ a0 = 60) → (¬ a0 = 44) → (¬ a0 = 46) → (a0 = 43) → QW d mMo_isSign 42 (lMo_isSign_42 a0) [] (hpo X mem sw o e) P) (k6 : (¬ a0 = 61) → (¬ a0 = 60) → (¬ a0 = 44) → (¬ a0 = 46) → (¬ a0 = 43) → (a0 = 45) → QW d mMo_isSign 42 (lMo_isSign_42 a0) [] (hpo X mem sw o e) P) (k7 : (¬ a0 = 61) → (¬ a0 = 60) → (¬ a0 = 44) → (¬ a0 = 46) → (¬ a0 = 43) → (¬ a0 = 45) → (¬ a0 = 94) → P (.inl (some (.int 0)), (hpo X mem sw o e))) (k8 : (¬ a0 = 61) → (¬ a0 = 60) → (¬ a0 = 44) → (¬ a0 = 46) → (¬ a0 = 43) → (¬ a0 = 45) → (a0 = 94) → QW d mMo_isSign 42 (lMo_isSign_42 a0) [] (hpo X mem sw o e) P) : QW d mMo_isSign 0 (qen 1 [.int a0]) [] (hpo X mem sw o e) P := by
  show QW d mMo_isSign 0 [.val (.int a0)] [] (hpo X mem sw o e) P
  refine QW.iload_n dMo_isSign_0 rfl rfl ?_
  refine QW.bipush (v := 61) dMo_isSign_1 (by decide) ?_
  refine QW.icmp_eq (tgt := 42) dMo_isSign_3 (by decide) (fun z0 => ?_) (fun z0 => ?_)
  · exact (k1 z0)
  · refine QW.iload_n dMo_isSign_6 rfl rfl ?_
    refine QW.bipush (v := 60) dMo_isSign_7 (by decide) ?_
    refine QW.icmp_eq (tgt := 42) dMo_isSign_9 (by decide) (fun z1 => ?_) (fun z1 => ?_)
    · exact (k2 z0 z1)
    · refine QW.iload_n dMo_isSign_12 rfl rfl ?_
      refine QW.bipush (v := 44) dMo_isSign_13 (by decide) ?_
      refine QW.icmp_eq (tgt := 42) dMo_isSign_15 (by decide) (fun z2 => ?_) (fun z2 => ?_)
      · exact (k3 z0 z1 z2)
      · refine QW.iload_n dMo_isSign_18 rfl rfl ?_
        refine QW.bipush (v := 46) dMo_isSign_19 (by decide) ?_
        refine QW.icmp_eq (tgt := 42) dMo_isSign_21 (by decide) (fun z3 => ?_) (fun z3 => ?_)
        · exact (k4 z0 z1 z2 z3)
        · refine QW.iload_n dMo_isSign_24 rfl rfl ?_
          refine QW.bipush (v := 43) dMo_isSign_25 (by decide) ?_
          refine QW.icmp_eq (tgt := 42) dMo_isSign_27 (by decide) (fun z4 => ?_) (fun z4 => ?_)
          · exact (k5 z0 z1 z2 z3 z4)
          · refine QW.iload_n dMo_isSign_30 rfl rfl ?_
            refine QW.bipush (v := 45) dMo_isSign_31 (by decide) ?_
            refine QW.icmp_eq (tgt := 42) dMo_isSign_33 (by decide) (fun z5 => ?_) (fun z5 => ?_)
            · exact (k6 z0 z1 z2 z3 z4 z5)
            · refine QW.iload_n dMo_isSign_36 rfl rfl ?_
              refine QW.bipush (v := 94) dMo_isSign_37 (by decide) ?_
              refine QW.icmp_ne (tgt := 46) dMo_isSign_39 (by decide) (fun z6 => ?_) (fun z6 => ?_)
              · refine QW.iconst (v := 0) dMo_isSign_46 (by decide) ?_
                exact QW.iret dMo_isSign_47 rfl rfl (k7 z0 z1 z2 z3 z4 z5 z6)
              · exact (k8 z0 z1 z2 z3 z4 z5 z6)
theorem bMo_isSign_42 {a0 : Int32} (hX : X.length = 13) (k1 : P (.inl (some (.int 1)), (hpo X mem sw o e))) : QW d mMo_isSign 42 (lMo_isSign_42 a0) [] (hpo X mem sw o e) P := by
  show QW d mMo_isSign 42 [.val (.int a0)] [] (hpo X mem sw o e) P
  refine QW.iconst (v := 1) dMo_isSign_42 (by decide) ?_
  refine QW.goto (tgt := 47) dMo_isSign_43 (by decide) ?_
  exact QW.iret dMo_isSign_47 rfl rfl k1
theorem dMo_next_0 : decode mMo_next.2.1 0 = .ok (.aload_n 0, 1) := by decide +kernel
theorem dMo_next_1 : decode mMo_next.2.1 1 = .ok (.aload_n 0, 1) := by decide +kernel
theorem dMo_next_2 : decode mMo_next.2.1 2 = .ok (.getfield 125, 3) := by decide +kernel
theorem dMo_next_5 : decode mMo_next.2.1 5 = .ok (.putfield 128, 3) := by decide +kernel
theorem dMo_next_8 : decode mMo_next.2.1 8 = .ok (.aload_n 0, 1) := by decide +kernel
theorem dMo_next_9 : decode mMo_next.2.1 9 = .ok (.aload_n 0, 1) := by decide +kernel
theorem dMo_next_10 : decode mMo_next.2.1 10 = .ok (.getfield 128, 3) := by decide +kernel
theorem dMo_next_13 : decode mMo_next.2.1 13 = .ok (.invokevirtual 131, 3) := by decide +kernel
theorem dMo_next_16 : decode mMo_next.2.1 16 = .ok (.bipush 32, 2) := by decide +kernel
theorem dMo_next_18 : decode mMo_next.2.1 18 = .ok (.if_icmp .ne 16, 3) := by decide +kernel
theorem dMo_next_21 : decode mMo_next.2.1 21 = .ok (.aload_n 0, 1) := by decide +kernel
theorem dMo_next_22 : decode mMo_next.2.1 22 = .ok (.dup, 1) := by decide +kernel
theorem dMo_next_23 : decode mMo_next.2.1 23 = .ok (.getfield 128, 3) := by decide +kernel
theorem dMo_next_26 : decode mMo_next.2.1 26 = .ok (.iconst 1, 1) := by decide +kernel
theorem dMo_next_27 : decode mMo_next.2.1 27 = .ok (.iadd, 1) := by decide +kernel
theorem dMo_next_28 : decode mMo_next.2.1 28 = .ok (.putfield 128, 3) := by decide +kernel
theorem dMo_next_31 : decode mMo_next.2.1 31 = .ok (.goto (-23), 3) := by decide +kernel
theorem dMo_next_34 : decode mMo_next.2.1 34 = .ok (.aload_n 0, 1) := by decide +kernel
theorem dMo_next_35 : decode mMo_next.2.1 35 = .ok (.aload_n 0, 1) := by decide +kernel
theorem dMo_next_36 : decode mMo_next.2.1 36 = .ok (.getfield 128, 3) := by decide +kernel
theorem dMo_next_39 : decode mMo_next.2.1 39 = .ok (.putfield 125, 3) := by decide +kernel
theorem dMo_next_42 : decode mMo_next.2.1 42 = .ok (.aload_n 0, 1) := by decide +kernel
theorem dMo_next_43 : decode mMo_next.2.1 43 = .ok (.aload_n 0, 1) := by decide +kernel
theorem dMo_next_44 : decode mMo_next.2.1 44 = .ok (.getfield 128, 3) := by decide +kernel
theorem dMo_next_47 : decode mMo_next.2.1 47 = .ok (.invokevirtual 131, 3) := by decide +kernel
theorem dMo_next_50 : decode mMo_next.2.1 50 = .ok (.istore_n 1, 1) := by decide +kernel
theorem dMo_next_51 : decode mMo_next.2.1 51 = .ok (.aload_n 0, 1) := by decide +kernel
theorem dMo_next_52 : decode mMo_next.2.1 52 = .ok (.getfield 128, 3) := by decide +kernel
theorem dMo_next_55 : decode mMo_next.2.1 55 = .ok (.aload_n 0, 1) := by decide +kernel
theorem dMo_next_56 : decode mMo_next.2.1 56 = .ok (.getfield 122, 3) := by decide +kernel
theorem dMo_next_59 : decode mMo_next.2.1 59 = .ok (.if_icmp .lt 11, 3) := by decide +kernel
theorem dMo_next_62 : decode mMo_next.2.1 62 = .ok (.aload_n 0, 1) := by decide +kernel
theorem dMo_next_63 : decode mMo_next.2.1 63 = .ok (.iconst 0, 1) := by decide +kernel
theorem dMo_next_64 : decode mMo_next.2.1 64 = .ok (.putfield 135, 3) := by decide +kernel
theorem dMo_next_67 : decode mMo_next.2.1 67 = .ok (.goto 191, 3) := by decide +kernel
theorem dMo_next_70 : decode mMo_next.2.1 70 = .ok (.iload_n 1, 1) := by decide +kernel
theorem dMo_next_71 : decode mMo_next.2.1 71 = .ok (.invokestatic 138, 3) := by decide +kernel
theorem dMo_next_74 : decode mMo_next.2.1 74 = .ok (.ifCond .eq 35, 3) := by decide +kernel
theorem dMo_next_77 : decode mMo_next.2.1 77 = .ok (.aload_n 0, 1) := by decide +kernel
theorem dMo_next_78 : decode mMo_next.2.1 78 = .ok (.iconst 1, 1) := by decide +kernel
theorem dMo_next_79 : decode mMo_next.2.1 79 = .ok (.putfield 135, 3) := by decide +kernel
theorem dMo_next_82 : decode mMo_next.2.1 82 = .ok (.aload_n 0, 1) := by decide +kernel
theorem dMo_next_83 : decode mMo_next.2.1 83 = .ok (.aload_n 0, 1) := by decide +kernel
theorem dMo_next_84 : decode mMo_next.2.1 84 = .ok (.getfield 125, 3) := by decide +kernel
theorem dMo_next_87 : decode mMo_next.2.1 87 = .ok (.invokevirtual 131, 3) := by decide +kernel
theorem dMo_next_90 : decode mMo_next.2.1 90 = .ok (.invokestatic 138, 3) := by decide +kernel
theorem dMo_next_93 : decode mMo_next.2.1 93 = .ok (.ifCond .eq 165, 3) := by decide +kernel
theorem dMo_next_96 : decode mMo_next.2.1 96 = .ok (.aload_n 0, 1) := by decide +kernel
theorem dMo_next_97 : decode mMo_next.2.1 97 = .ok (.dup, 1) := by decide +kernel
theorem dMo_next_98 : decode mMo_next.2.1 98 = .ok (.getfield 125, 3) := by decide +kernel
theorem dMo_next_101 : decode mMo_next.2.1 101 = .ok (.iconst 1, 1) := by decide +kernel
theorem dMo_next_102 : decode mMo_next.2.1 102 = .ok (.iadd, 1) := by decide +kernel
theorem dMo_next_103 : decode mMo_next.2.1 103 = .ok (.putfield 125, 3) := by decide +kernel
theorem dMo_next_106 : decode mMo_next.2.1 106 = .ok (.goto (-24), 3) := by decide +kernel
theorem dMo_next_109 : decode mMo_next.2.1 109 = .ok (.iload_n 1, 1) := by decide +kernel
theorem dMo_next_110 : decode mMo_next.2.1 110 = .ok (.invokestatic 142, 3) := by decide +kernel
theorem dMo_next_113 : decode mMo_next.2.1 113 = .ok (.ifCond .eq 103, 3) := by decide +kernel
theorem dMo_next_116 : decode mMo_next.2.1 116 = .ok (.aload_n 0, 1) := by decide +kernel
theorem dMo_next_117 : decode mMo_next.2.1 117 = .ok (.iconst 0, 1) := by decide +kernel
theorem dMo_next_118 : decode mMo_next.2.1 118 = .ok (.putfield 145, 3) := by decide +kernel
theorem dMo_next_121 : decode mMo_next.2.1 121 = .ok (.aload_n 0, 1) := by decide +kernel
theorem dMo_next_122 : decode mMo_next.2.1 122 = .ok (.aload_n 0, 1) := by decide +kernel
theorem dMo_next_123 : decode mMo_next.2.1 123 = .ok (.getfield 125, 3) := by decide +kernel
theorem dMo_next_126 : decode mMo_next.2.1 126 = .ok (.invokevirtual 131, 3) := by decide +kernel
theorem dMo_next_129 : decode mMo_next.2.1 129 = .ok (.invokestatic 142, 3) := by decide +kernel
theorem dMo_next_132 : decode mMo_next.2.1 132 = .ok (.ifCond .eq 59, 3) := by decide +kernel
theorem dMo_next_135 : decode mMo_next.2.1 135 = .ok (.aload_n 0, 1) := by decide +kernel
theorem dMo_next_136 : decode mMo_next.2.1 136 = .ok (.aload_n 0, 1) := by decide +kernel
theorem dMo_next_137 : decode mMo_next.2.1 137 = .ok (.getfield 125, 3) := by decide +kernel
theorem dMo_next_140 : decode mMo_next.2.1 140 = .ok (.aload_n 0, 1) := by decide +kernel
theorem dMo_next_141 : decode mMo_next.2.1 141 = .ok (.getfield 128, 3) := by decide +kernel
theorem dMo_next_144 : decode mMo_next.2.1 144 = .ok (.isub, 1) := by decide +kernel
theorem dMo_next_145 : decode mMo_next.2.1 145 = .ok (.iconst 3, 1) := by decide +kernel
theorem dMo_next_146 : decode mMo_next.2.1 146 = .ok (.if_icmp .ge 25, 3) := by decide +kernel
theorem dMo_next_149 : decode mMo_next.2.1 149 = .ok (.bipush 10, 2) := by decide +kernel
theorem dMo_next_151 : decode mMo_next.2.1 151 = .ok (.aload_n 0, 1) := by decide +kernel
theorem dMo_next_152 : decode mMo_next.2.1 152 = .ok (.getfield 145, 3) := by decide +kernel
theorem dMo_next_155 : decode mMo_next.2.1 155 = .ok (.imul, 1) := by decide +kernel
theorem dMo_next_156 : decode mMo_next.2.1 156 = .ok (.aload_n 0, 1) := by decide +kernel
theorem dMo_next_157 : decode mMo_next.2.1 157 = .ok (.aload_n 0, 1) := by decide +kernel
theorem dMo_next_158 : decode mMo_next.2.1 158 = .ok (.getfield 125, 3) := by decide +kernel
theorem dMo_next_161 : decode mMo_next.2.1 161 = .ok (.invokevirtual 131, 3) := by decide +kernel
theorem dMo_next_164 : decode mMo_next.2.1 164 = .ok (.iadd, 1) := by decide +kernel
theorem dMo_next_165 : decode mMo_next.2.1 165 = .ok (.bipush 48, 2) := by decide +kernel
theorem dMo_next_167 : decode mMo_next.2.1 167 = .ok (.isub, 1) := by decide +kernel
theorem dMo_next_168 : decode mMo_next.2.1 168 = .ok (.goto 7, 3) := by decide +kernel
theorem dMo_next_171 : decode mMo_next.2.1 171 = .ok (.aload_n 0, 1) := by decide +kernel
theorem dMo_next_172 : decode mMo_next.2.1 172 = .ok (.getfield 145, 3) := by decide +kernel
theorem dMo_next_175 : decode mMo_next.2.1 175 = .ok (.putfield 145, 3) := by decide +kernel
theorem dMo_next_178 : decode mMo_next.2.1 178 = .ok (.aload_n 0, 1) := by decide +kernel
theorem dMo_next_179 : decode mMo_next.2.1 179 = .ok (.dup, 1) := by decide +kernel
theorem dMo_next_180 : decode mMo_next.2.1 180 = .ok (.getfield 125, 3) := by decide +kernel
theorem dMo_next_183 : decode mMo_next.2.1 183 = .ok (.iconst 1, 1) := by decide +kernel
theorem dMo_next_184 : decode mMo_next.2.1 184 = .ok (.iadd, 1) := by decide +kernel
theorem dMo_next_185 : decode mMo_next.2.1 185 = .ok (.putfield 125, 3) := by decide +kernel
theorem dMo_next_188 : decode mMo_next.2.1 188 = .ok (.goto (-67), 3) := by decide +kernel
theorem dMo_next_191 : decode mMo_next.2.1 191 = .ok (.aload_n 0, 1) := by decide +kernel
theorem dMo_next_192 : decode mMo_next.2.1 192 = .ok (.aload_n 0, 1) := by decide +kernel
theorem dMo_next_193 : decode mMo_next.2.1 193 = .ok (.getfield 125, 3) := by decide +kernel
theorem dMo_next_196 : decode mMo_next.2.1 196 = .ok (.aload_n 0, 1) := by decide +kernel
theorem dMo_next_197 : decode mMo_next.2.1 197 = .ok (.getfield 128, 3) := by decide +kernel
theorem dMo_next_200 : decode mMo_next.2.1 200 = .ok (.isub, 1) := by decide +kernel
theorem dMo_next_201 : decode mMo_next.2.1 201 = .ok (.iconst 3, 1) := by decide +kernel
theorem dMo_next_202 : decode mMo_next.2.1 202 = .ok (.if_icmp .le 7, 3) := by decide +kernel
theorem dMo_next_205 : decode mMo_next.2.1 205 = .ok (.iconst 5, 1) := by decide +kernel
theorem dMo_next_206 : decode mMo_next.2.1 206 = .ok (.goto 4, 3) := by decide +kernel
theorem dMo_next_209 : decode mMo_next.2.1 209 = .ok (.iconst 3, 1) := by decide +kernel
theorem dMo_next_210 : decode mMo_next.2.1 210 = .ok (.putfield 135, 3) := by decide +kernel
theorem dMo_next_213 : decode mMo_next.2.1 213 = .ok (.goto 45, 3) := by decide +kernel
theorem dMo_next_216 : decode mMo_next.2.1 216 = .ok (.aload_n 0, 1) := by decide +kernel
theorem dMo_next_217 : decode mMo_next.2.1 217 = .ok (.iload_n 1, 1) := by decide +kernel
theorem dMo_next_218 : decode mMo_next.2.1 218 = .ok (.bipush 65, 2) := by decide +kernel
theorem dMo_next_220 : decode mMo_next.2.1 220 = .ok (.if_icmp .lt 13, 3) := by decide +kernel
theorem dMo_next_223 : decode mMo_next.2.1 223 = .ok (.iload_n 1, 1) := by decide +kernel
theorem dMo_next_224 : decode mMo_next.2.1 224 = .ok (.bipush 90, 2) := by decide +kernel
theorem dMo_next_226 : decode mMo_next.2.1 226 = .ok (.if_icmp .gt 7, 3) := by decide +kernel
theorem dMo_next_229 : decode mMo_next.2.1 229 = .ok (.iconst 2, 1) := by decide +kernel
theorem dMo_next_230 : decode mMo_next.2.1 230 = .ok (.goto 15, 3) := by decide +kernel
theorem dMo_next_233 : decode mMo_next.2.1 233 = .ok (.iload_n 1, 1) := by decide +kernel
theorem dMo_next_234 : decode mMo_next.2.1 234 = .ok (.invokestatic 148, 3) := by decide +kernel
theorem dMo_next_237 : decode mMo_next.2.1 237 = .ok (.ifCond .eq 7, 3) := by decide +kernel
theorem dMo_next_240 : decode mMo_next.2.1 240 = .ok (.iconst 4, 1) := by decide +kernel
theorem dMo_next_241 : decode mMo_next.2.1 241 = .ok (.goto 4, 3) := by decide +kernel
theorem dMo_next_244 : decode mMo_next.2.1 244 = .ok (.iconst 5, 1) := by decide +kernel
theorem dMo_next_245 : decode mMo_next.2.1 245 = .ok (.putfield 135, 3) := by decide +kernel
theorem dMo_next_248 : decode mMo_next.2.1 248 = .ok (.aload_n 0, 1) := by decide +kernel
theorem dMo_next_249 : decode mMo_next.2.1 249 = .ok (.dup, 1) := by decide +kernel
theorem dMo_next_250 : decode mMo_next.2.1 250 = .ok (.getfield 125, 3) := by decide +kernel
theorem dMo_next_253 : decode mMo_next.2.1 253 = .ok (.iconst 1, 1) := by decide +kernel
theorem dMo_next_254 : decode mMo_next.2.1 254 = .ok (.iadd, 1) := by decide +kernel
theorem dMo_next_255 : decode mMo_next.2.1 255 = .ok (.putfield 125, 3) := by decide +kernel
theorem dMo_next_258 : decode mMo_next.2.1 258 = .ok (.return_, 1) := by decide +kernel
def lMo_next_8  : List Slot := [.val (.ref 193), .unset]
def lMo_next_16  : List Slot := [.val (.ref 193), .unset]
def lMo_next_50  : List Slot := [.val (.ref 193), .unset]
def lMo_next_74 (a1 : Int32) : List Slot := [.val (.ref 193), .val (.int a1)]
def lMo_next_82 (a1 : Int32) : List Slot := [.val (.ref 193), .val (.int a1)]
def lMo_next_90 (a1 : Int32) : List Slot := [.val (.ref 193), .val (.int a1)]
def lMo_next_93 (a1 : Int32) : List Slot := [.val (.ref 193), .val (.int a1)]
def lMo_next_113 (a1 : Int32) : List Slot := [.val (.ref 193), .val (.int a1)]
def lMo_next_121 (a1 : Int32) : List Slot := [.val (.ref 193), .val (.int a1)]
def lMo_next_129 (a1 : Int32) : List Slot := [.val (.ref 193), .val (.int a1)]
def lMo_next_132 (a1 : Int32) : List Slot := [.val (.ref 193), .val (.int a1)]
def lMo_next_164 (a1 : Int32) : List Slot := [.val (.ref 193), .val (.int a1)]
def lMo_next_175 (a1 : Int32) : List Slot := [.val (.ref 193), .val (.int a1)]
def lMo_next_210 (a1 : Int32) : List Slot := [.val (.ref 193), .val (.int a1)]
def lMo_next_233 (a1 : Int32) : List Slot := [.val (.ref 193), .val (.int a1)]
def lMo_next_237 (a1 : Int32) : List Slot := [.val (.ref 193), .val (.int a1)]
def lMo_next_245 (a1 : Int32) : List Slot := [.val (.ref 193), .val (.int a1)]
theorem bMo_next_0 (hX : X.length = 13) (k1 : QW d mMo_next 8 lMo_next_8 [] (hpo X (mup mem 193 10 (mem 193 11)) sw o e) P) : QW d mMo_next 0 (qen 2 [.ref 193]) [] (hpo X mem sw o e) P := by
  show QW d mMo_next 0 [.val (.ref 193), .unset] [] (hpo X mem sw o e) P
  refine QW.aload_n dMo_next_0 rfl rfl ?_
  refine QW.aload_n dMo_next_1 rfl rfl ?_
  refine MW.geti hX dMo_next_2 fMo_125 rfl rfl ?_
  refine MW.puti hX dMo_next_5 fMo_128 rfl rfl rfl ?_
  exact k1
theorem bMo_next_8 (hX : X.length = 13) (k1 : QW d mMo_see 0 (qen 2 [.ref 193, .int (mem 193 10)]) [] (hpo X mem sw o e) (qcl d mMo_next 13 16 lMo_next_16 [] P)) : QW (d + 1) mMo_next 8 (lMo_next_8) [] (hpo X mem sw o e) P := by
  show QW (d + 1) mMo_next 8 [.val (.ref 193), .unset] [] (hpo X mem sw o e) P
  refine QW.aload_n dMo_next_8 rfl rfl ?_
  refine QW.aload_n dMo_next_9 rfl rfl ?_
  refine MW.geti hX dMo_next_10 fMo_128 rfl rfl ?_
  exact MW.calV (as := [.int (mem 193 10)]) (rest := []) hX dMo_next_13 eMo_see lMo_131 iMo_see vMo_see rfl rfl rfl rfl rfl rfl (Nat.le_of_ble_eq_true rfl) rfl k1
theorem bMo_next_16 {s0 : Int32} (hX : X.length = 13) (k1 : (¬ s0 = 32) → QW d mMo_see 0 (qen 2 [.ref 193, .int ((mup mem 193 11 (mem 193 10)) 193 10)]) [] (hpo X (mup mem 193 11 (mem 193 10)) sw o e) (qcl d mMo_next 47 50 lMo_next_50 [] P)) (k2 : (s0 = 32) → QW (d + 1) mMo_next 8 lMo_next_8 [] (hpo X (mup mem 193 10 ((mem 193 10) + 1)) sw o e) P) : QW (d + 1) mMo_next 16 (lMo_next_16) [.int s0] (hpo X mem sw o e) P := by
  show QW (d + 1) mMo_next 16 [.val (.ref 193), .unset] [.int s0] (hpo X mem sw o e) P
  refine QW.bipush (v := 32) dMo_next_16 (by decide) ?_
  refine QW.icmp_ne (tgt := 34) dMo_next_18 (by decide) (fun z0 => ?_) (fun z0 => ?_)
  · refine QW.aload_n dMo_next_34 rfl rfl ?_
    refine QW.aload_n dMo_next_35 rfl rfl ?_
    refine MW.geti hX dMo_next_36 fMo_128 rfl rfl ?_
    refine MW.puti hX dMo_next_39 fMo_125 rfl rfl rfl ?_
    refine QW.aload_n dMo_next_42 rfl rfl ?_
    refine QW.aload_n dMo_next_43 rfl rfl ?_
    refine MW.geti hX dMo_next_44 fMo_128 rfl rfl ?_
    exact MW.calV (as := [.int ((mup mem 193 11 (mem 193 10)) 193 10)]) (rest := []) hX dMo_next_47 eMo_see lMo_131 iMo_see vMo_see rfl rfl rfl rfl rfl rfl (Nat.le_of_ble_eq_true rfl) rfl (k1 z0)
  · refine QW.aload_n dMo_next_21 rfl rfl ?_
    refine QW.dup dMo_next_22 rfl ?_
    refine MW.geti hX dMo_next_23 fMo_128 rfl rfl ?_
    refine QW.iconst (v := 1) dMo_next_26 (by decide) ?_
    refine QW.iadd dMo_next_27 ?_
    refine MW.puti hX dMo_next_28 fMo_128 rfl rfl rfl ?_
    refine QW.goto (tgt := 8) dMo_next_31 (by decide) ?_
    exact (k2 z0)
theorem bMo_next_50 {s0 : Int32} (hX : X.length = 13) (k1 : ((mem 193 10) < (mem 193 6)) → QW d mMo_isSmall 0 (qen 1 [.int s0]) [] (hpo X mem sw o e) (qcl d mMo_next 71 74 (lMo_next_74 s0) [] P)) (k2 : (¬ (mem 193 10) < (mem 193 6)) → P (.inl none, (hpo X (mup mem 193 9 0) sw o e))) : QW (d + 1) mMo_next 50 (lMo_next_50) [.int s0] (hpo X mem sw o e) P := by
  show QW (d + 1) mMo_next 50 [.val (.ref 193), .unset] [.int s0] (hpo X mem sw o e) P
  refine QW.istore_n (ls' := [.val (.ref 193), .val (.int s0)]) dMo_next_50 rfl rfl ?_
  refine QW.aload_n dMo_next_51 rfl rfl ?_
  refine MW.geti hX dMo_next_52 fMo_128 rfl rfl ?_
  refine QW.aload_n dMo_next_55 rfl rfl ?_
  refine MW.geti hX dMo_next_56 fMo_122 rfl rfl ?_
  refine QW.icmp_lt (tgt := 70) dMo_next_59 (by decide) (fun z0 => ?_) (fun z0 => ?_)
  · refine QW.iload_n dMo_next_70 rfl rfl ?_
    exact MW.calS (as := [.int s0]) (rest := []) dMo_next_71 eMo_isSmall lMo_138 sMo_isSmall rfl rfl rfl (Nat.le_of_ble_eq_true rfl) rfl (k1 z0)
  · refine QW.aload_n dMo_next_62 rfl rfl ?_
    refine QW.iconst (v := 0) dMo_next_63 (by decide) ?_
    refine MW.puti hX dMo_next_64 fMo_135 rfl rfl rfl ?_
    refine QW.goto (tgt := 258) dMo_next_67 (by decide) ?_
    exact QW.vret dMo_next_258 rfl (k2 z0)
theorem bMo_next_74 {a1 : Int32} {s0 : Int32} (hX : X.length = 13) (k1 : (s0 = 0) → QW d mMo_isDigit 0 (qen 1 [.int a1]) [] (hpo X mem sw o e) (qcl d mMo_next 110 113 (lMo_next_113 a1) [] P)) (k2 : (¬ s0 = 0) → QW (d + 1) mMo_next 82 (lMo_next_82 a1) [] (hpo X (mup mem 193 9 1) sw o e) P) : QW (d + 1) mMo_next 74 (lMo_next_74 a1) [.int s0] (hpo X mem sw o e) P := by
  show QW (d + 1) mMo_next 74 [.val (.ref 193), .val (.int a1)] [.int s0] (hpo X mem sw o e) P
  refine QW.if_eq (tgt := 109) dMo_next_74 (by decide) (fun z0 => ?_) (fun z0 => ?_)
  · refine QW.iload_n dMo_next_109 rfl rfl ?_
    exact MW.calS (as := [.int a1]) (rest := []) dMo_next_110 eMo_isDigit lMo_142 sMo_isDigit rfl rfl rfl (Nat.le_of_ble_eq_true rfl) rfl (k1 z0)
  · refine QW.aload_n dMo_next_77 rfl rfl ?_
    refine QW.iconst (v := 1) dMo_next_78 (by decide) ?_
    refine MW.puti hX dMo_next_79 fMo_135 rfl rfl rfl ?_
    exact (k2 z0)
theorem bMo_next_82 {a1 : Int32} (hX : X.length = 13) (k1 : QW d mMo_see 0 (qen 2 [.ref 193, .int (mem 193 11)]) [] (hpo X mem sw o e) (qcl d mMo_next 87 90 (lMo_next_90 a1) [] P)) : QW (d + 1) mMo_next 82 (lMo_next_82 a1) [] (hpo X mem sw o e) P := by
  show QW (d + 1) mMo_next 82 [.val (.ref 193), .val (.int a1)] [] (hpo X mem sw o e) P
  refine QW.aload_n dMo_next_82 rfl rfl ?_
  refine QW.aload_n dMo_next_83 rfl rfl ?_
  refine MW.geti hX dMo_next_84 fMo_125 rfl rfl ?_
  exact MW.calV (as := [.int (mem 193 11)]) (rest := []) hX dMo_next_87 eMo_see lMo_131 iMo_see vMo_see rfl rfl rfl rfl rfl rfl (Nat.le_of_ble_eq_true rfl) rfl k1
theorem bMo_next_90 {a1 : Int32} {s0 : Int32} (hX : X.length = 13) (k1 : QW d mMo_isSmall 0 (qen 1 [.int s0]) [] (hpo X mem sw o e) (qcl d mMo_next 90 93 (lMo_next_93 a1) [] P)) : QW (d + 1) mMo_next 90 (lMo_next_90 a1) [.int s0] (hpo X mem sw o e) P := by
  show QW (d + 1) mMo_next 90 [.val (.ref 193), .val (.int a1)] [.int s0] (hpo X mem sw o e) P
  exact MW.calS (as := [.int s0]) (rest := []) dMo_next_90 eMo_isSmall lMo_138 sMo_isSmall rfl rfl rfl (Nat.le_of_ble_eq_true rfl) rfl k1
theorem bMo_next_93 {a1 : Int32} {s0 : Int32} (hX : X.length = 13) (k1 : (s0 = 0) → P (.inl none, (hpo X mem sw o e))) (k2 : (¬ s0 = 0) → QW d mMo_next 82 (lMo_next_82 a1) [] (hpo X (mup mem 193 11 ((mem 193 11) + 1)) sw o e) P) : QW d mMo_next 93 (lMo_next_93 a1) [.int s0] (hpo X mem sw o e) P := by
  show QW d mMo_next 93 [.val (.ref 193), .val (.int a1)] [.int s0] (hpo X mem sw o e) P
  refine QW.if_eq (tgt := 258) dMo_next_93 (by decide) (fun z0 => ?_) (fun z0 => ?_)
  · exact QW.vret dMo_next_258 rfl (k1 z0)
  · refine QW.aload_n dMo_next_96 rfl rfl ?_
    refine QW.dup dMo_next_97 rfl ?_
    refine MW.geti hX dMo_next_98 fMo_125 rfl rfl ?_
    refine QW.iconst (v := 1) dMo_next_101 (by decide) ?_
    refine QW.iadd dMo_next_102 ?_
    refine MW.puti hX dMo_next_103 fMo_125 rfl rfl rfl ?_
    refine QW.goto (tgt := 82) dMo_next_106 (by decide) ?_
    exact (k2 z0)
theorem bMo_next_113 {a1 : Int32} {s0 : Int32} (hX : X.length = 13) (k1 : (s0 = 0) → (a1 < 65) → QW d mMo_next 233 (lMo_next_233 a1) [.ref 193] (hpo X mem sw o e) P) (k2 : (s0 = 0) → (¬ a1 < 65) → (90 < a1) → QW d mMo_next 233 (lMo_next_233 a1) [.ref 193] (hpo X mem sw o e) P) (k3 : (s0 = 0) → (¬ a1 < 65) → (¬ 90 < a1) → QW d mMo_next 245 (lMo_next_245 a1) [.int 2, .ref 193] (hpo X mem sw o e) P) (k4 : (¬ s0 = 0) → QW d mMo_next 121 (lMo_next_121 a1) [] (hpo X (mup mem 193 12 0) sw o e) P) : QW d mMo_next 113 (lMo_next_113 a1) [.int s0] (hpo X mem sw o e) P := by
  show QW d mMo_next 113 [.val (.ref 193), .val (.int a1)] [.int s0] (hpo X mem sw o e) P
  refine QW.if_eq (tgt := 216) dMo_next_113 (by decide) (fun z0 => ?_) (fun z0 => ?_)
  · refine QW.aload_n dMo_next_216 rfl rfl ?_
    refine QW.iload_n dMo_next_217 rfl rfl ?_
    refine QW.bipush (v := 65) dMo_next_218 (by decide) ?_
    refine QW.icmp_lt (tgt := 233) dMo_next_220 (by decide) (fun z1 => ?_) (fun z1 => ?_)
    · exact (k1 z0 z1)
    · refine QW.iload_n dMo_next_223 rfl rfl ?_
      refine QW.bipush (v := 90) dMo_next_224 (by decide) ?_
      refine QW.icmp_gt (tgt := 233) dMo_next_226 (by decide) (fun z2 => ?_) (fun z2 => ?_)
      · exact (k2 z0 z1 z2)
      · refine QW.iconst (v := 2) dMo_next_229 (by decide) ?_
        refine QW.goto (tgt := 245) dMo_next_230 (by decide) ?_
        exact (k3 z0 z1 z2)
  · refine QW.aload_n dMo_next_116 rfl rfl ?_
    refine QW.iconst (v := 0) dMo_next_117 (by decide) ?_
    refine MW.puti hX dMo_next_118 fMo_145 rfl rfl rfl ?_
    exact (k4 z0)
theorem bMo_next_121 {a1 : Int32} (hX : X.length = 13) (k1 : QW d mMo_see 0 (qen 2 [.ref 193, .int (mem 193 11)]) [] (hpo X mem sw o e) (qcl d mMo_next 126 129 (lMo_next_129 a1) [] P)) : QW (d + 1) mMo_next 121 (lMo_next_121 a1) [] (hpo X mem sw o e) P := by
  show QW (d + 1) mMo_next 121 [.val (.ref 193), .val (.int a1)] [] (hpo X mem sw o e) P
  refine QW.aload_n dMo_next_121 rfl rfl ?_
  refine QW.aload_n dMo_next_122 rfl rfl ?_
  refine MW.geti hX dMo_next_123 fMo_125 rfl rfl ?_
  exact MW.calV (as := [.int (mem 193 11)]) (rest := []) hX dMo_next_126 eMo_see lMo_131 iMo_see vMo_see rfl rfl rfl rfl rfl rfl (Nat.le_of_ble_eq_true rfl) rfl k1
theorem bMo_next_129 {a1 : Int32} {s0 : Int32} (hX : X.length = 13) (k1 : QW d mMo_isDigit 0 (qen 1 [.int s0]) [] (hpo X mem sw o e) (qcl d mMo_next 129 132 (lMo_next_132 a1) [] P)) : QW (d + 1) mMo_next 129 (lMo_next_129 a1) [.int s0] (hpo X mem sw o e) P := by
  show QW (d + 1) mMo_next 129 [.val (.ref 193), .val (.int a1)] [.int s0] (hpo X mem sw o e) P
  exact MW.calS (as := [.int s0]) (rest := []) dMo_next_129 eMo_isDigit lMo_142 sMo_isDigit rfl rfl rfl (Nat.le_of_ble_eq_true rfl) rfl k1
theorem bMo_next_132 {a1 : Int32} {s0 : Int32} (hX : X.length = 13) (k1 : (s0 = 0) → (((mem 193 11) - (mem 193 10)) ≤ 3) → QW (d + 1) mMo_next 210 (lMo_next_210 a1) [.int 3, .ref 193] (hpo X mem sw o e) P) (k2 : (s0 = 0) → (¬ ((mem 193 11) - (mem 193 10)) ≤ 3) → QW (d + 1) mMo_next 210 (lMo_next_210 a1) [.int 5, .ref 193] (hpo X mem sw o e) P) (k3 : (¬ s0 = 0) → (3 ≤ ((mem 193 11) - (mem 193 10))) → QW (d + 1) mMo_next 175 (lMo_next_175 a1) [.int (mem 193 12), .ref 193] (hpo X mem sw o e) P) (k4 : (¬ s0 = 0) → (¬ 3 ≤ ((mem 193 11) - (mem 193 10))) → QW d mMo_see 0 (qen 2 [.ref 193, .int (mem 193 11)]) [] (hpo X mem sw o e) (qcl d mMo_next 161 164 (lMo_next_164 a1) [.int (10 * (mem 193 12)), .ref 193] P)) : QW (d + 1) mMo_next 132 (lMo_next_132 a1) [.int s0] (hpo X mem sw o e) P := by
  show QW (d + 1) mMo_next 132 [.val (.ref 193), .val (.int a1)] [.int s0] (hpo X mem sw o e) P
  refine QW.if_eq (tgt := 191) dMo_next_132 (by decide) (fun z0 => ?_) (fun z0 => ?_)
  · refine QW.aload_n dMo_next_191 rfl rfl ?_
    refine QW.aload_n dMo_next_192 rfl rfl ?_
    refine MW.geti hX dMo_next_193 fMo_125 rfl rfl ?_
    refine QW.aload_n dMo_next_196 rfl rfl ?_
    refine MW.geti hX dMo_next_197 fMo_128 rfl rfl ?_
    refine QW.isub dMo_next_200 ?_
    refine QW.iconst (v := 3) dMo_next_201 (by decide) ?_
    refine QW.icmp_le (tgt := 209) dMo_next_202 (by decide) (fun z1 => ?_) (fun z1 => ?_)
    · refine QW.iconst (v := 3) dMo_next_209 (by decide) ?_
      exact (k1 z0 z1)
    · refine QW.iconst (v := 5) dMo_next_205 (by decide) ?_
      refine QW.goto (tgt := 210) dMo_next_206 (by decide) ?_
      exact (k2 z0 z1)
  · refine QW.aload_n dMo_next_135 rfl rfl ?_
    refine QW.aload_n dMo_next_136 rfl rfl ?_
    refine MW.geti hX dMo_next_137 fMo_125 rfl rfl ?_
    refine QW.aload_n dMo_next_140 rfl rfl ?_
    refine MW.geti hX dMo_next_141 fMo_128 rfl rfl ?_
    refine QW.isub dMo_next_144 ?_
    refine QW.iconst (v := 3) dMo_next_145 (by decide) ?_
    refine QW.icmp_ge (tgt := 171) dMo_next_146 (by decide) (fun z1 => ?_) (fun z1 => ?_)
    · refine QW.aload_n dMo_next_171 rfl rfl ?_
      refine MW.geti hX dMo_next_172 fMo_145 rfl rfl ?_
      exact (k3 z0 z1)
    · refine QW.bipush (v := 10) dMo_next_149 (by decide) ?_
      refine QW.aload_n dMo_next_151 rfl rfl ?_
      refine MW.geti hX dMo_next_152 fMo_145 rfl rfl ?_
      refine QW.imul dMo_next_155 ?_
      refine QW.aload_n dMo_next_156 rfl rfl ?_
      refine QW.aload_n dMo_next_157 rfl rfl ?_
      refine MW.geti hX dMo_next_158 fMo_125 rfl rfl ?_
      exact MW.calV (as := [.int (mem 193 11)]) (rest := [.int (10 * (mem 193 12)), .ref 193]) hX dMo_next_161 eMo_see lMo_131 iMo_see vMo_see rfl rfl rfl rfl rfl rfl (Nat.le_of_ble_eq_true rfl) rfl (k4 z0 z1)
theorem bMo_next_164 {a1 : Int32} {s2 : Int32} {s1 : Int32} (hX : X.length = 13) (k1 : QW d mMo_next 175 (lMo_next_175 a1) [.int ((s1 + s2) - 48), .ref 193] (hpo X mem sw o e) P) : QW d mMo_next 164 (lMo_next_164 a1) [.int s2, .int s1, .ref 193] (hpo X mem sw o e) P := by
  show QW d mMo_next 164 [.val (.ref 193), .val (.int a1)] [.int s2, .int s1, .ref 193] (hpo X mem sw o e) P
  refine QW.iadd dMo_next_164 ?_
  refine QW.bipush (v := 48) dMo_next_165 (by decide) ?_
  refine QW.isub dMo_next_167 ?_
  refine QW.goto (tgt := 175) dMo_next_168 (by decide) ?_
  exact k1
theorem bMo_next_175 {a1 : Int32} {s1 : Int32} (hX : X.length = 13) (k1 : QW d mMo_next 121 (lMo_next_121 a1) [] (hpo X (mup (mup mem 193 12 s1) 193 11 (((mup mem 193 12 s1) 193 11) + 1)) sw o e) P) : QW d mMo_next 175 (lMo_next_175 a1) [.int s1, .ref 193] (hpo X mem sw o e) P := by
  show QW d mMo_next 175 [.val (.ref 193), .val (.int a1)] [.int s1, .ref 193] (hpo X mem sw o e) P
  refine MW.puti hX dMo_next_175 fMo_145 rfl rfl rfl ?_
  refine QW.aload_n dMo_next_178 rfl rfl ?_
  refine QW.dup dMo_next_179 rfl ?_
  refine MW.geti hX dMo_next_180 fMo_125 rfl rfl ?_
  refine QW.iconst (v := 1) dMo_next_183 (by decide) ?_
  refine QW.iadd dMo_next_184 ?_
  refine MW.puti hX dMo_next_185 fMo_125 rfl rfl rfl ?_
  refine QW.goto (tgt := 121) dMo_next_188 (by decide) ?_
  exact k1
theorem bMo_next_210 {a1 : Int32} {s1 : Int32} (hX : X.length = 13) (k1 : P (.inl none, (hpo X (mup mem 193 9 s1) sw o e))) : QW d mMo_next 210 (lMo_next_210 a1) [.int s1, .ref 193] (hpo X mem sw o e) P := by
  show QW d mMo_next 210 [.val (.ref 193), .val (.int a1)] [.int s1, .ref 193] (hpo X mem sw o e) P
  refine MW.puti hX dMo_next_210 fMo_135 rfl rfl rfl ?_
  refine QW.goto (tgt := 258) dMo_next_213 (by decide) ?_
  exact QW.vret dMo_next_258 rfl k1
theorem bMo_next_233 {a1 : Int32} (hX : X.length = 13) (k1 : QW d mMo_isSign 0 (qen 1 [.int a1]) [] (hpo X mem sw o e) (qcl d mMo_next 234 237 (lMo_next_237 a1) [.ref 193] P)) : QW (d + 1) mMo_next 233 (lMo_next_233 a1) [.ref 193] (hpo X mem sw o e) P := by
  show QW (d + 1) mMo_next 233 [.val (.ref 193), .val (.int a1)] [.ref 193] (hpo X mem sw o e) P
  refine QW.iload_n dMo_next_233 rfl rfl ?_
  exact MW.calS (as := [.int a1]) (rest := [.ref 193]) dMo_next_234 eMo_isSign lMo_148 sMo_isSign rfl rfl rfl (Nat.le_of_ble_eq_true rfl) rfl k1
theorem bMo_next_237 {a1 : Int32} {s1 : Int32} (hX : X.length = 13) (k1 : (s1 = 0) → QW d mMo_next 245 (lMo_next_245 a1) [.int 5, .ref 193] (hpo X mem sw o e) P) (k2 : (¬ s1 = 0) → QW d mMo_next 245 (lMo_next_245 a1) [.int 4, .ref 193] (hpo X mem sw o e) P) : QW d mMo_next 237 (lMo_next_237 a1) [.int s1, .ref 193] (hpo X mem sw o e) P := by
  show QW d mMo_next 237 [.val (.ref 193), .val (.int a1)] [.int s1, .ref 193] (hpo X mem sw o e) P
  refine QW.if_eq (tgt := 244) dMo_next_237 (by decide) (fun z0 => ?_) (fun z0 => ?_)
  · refine QW.iconst (v := 5) dMo_next_244 (by decide) ?_
    exact (k1 z0)
  · refine QW.iconst (v := 4) dMo_next_240 (by decide) ?_
    refine QW.goto (tgt := 245) dMo_next_241 (by decide) ?_
    exact (k2 z0)
theorem bMo_next_245 {a1 : Int32} {s1 : Int32} (hX : X.length = 13) (k1 : P (.inl none, (hpo X (mup (mup mem 193 9 s1) 193 11 (((mup mem 193 9 s1) 193 11) + 1)) sw o e))) : QW d mMo_next 245 (lMo_next_245 a1) [.int s1, .ref 193] (hpo X mem sw o e) P := by
  show QW d mMo_next 245 [.val (.ref 193), .val (.int a1)] [.int s1, .ref 193] (hpo X mem sw o e) P
  refine MW.puti hX dMo_next_245 fMo_135 rfl rfl rfl ?_
  refine QW.aload_n dMo_next_248 rfl rfl ?_
  refine QW.dup dMo_next_249 rfl ?_
  refine MW.geti hX dMo_next_250 fMo_125 rfl rfl ?_
  refine QW.iconst (v := 1) dMo_next_253 (by decide) ?_
  refine QW.iadd dMo_next_254 ?_
  refine MW.puti hX dMo_next_255 fMo_125 rfl rfl rfl ?_
  exact QW.vret dMo_next_258 rfl k1
theorem dMo_isIt_0 : decode mMo_isIt.2.1 0 = .ok (.aload_n 0, 1) := by decide +kernel
theorem dMo_isIt_1 : decode mMo_isIt.2.1 1 = .ok (.getfield 135, 3) := by decide +kernel
theorem dMo_isIt_4 : decode mMo_isIt.2.1 4 = .ok (.iconst 4, 1) := by decide +kernel
theorem dMo_isIt_5 : decode mMo_isIt.2.1 5 = .ok (.if_icmp .ne 20, 3) := by decide +kernel
theorem dMo_isIt_8 : decode mMo_isIt.2.1 8 = .ok (.aload_n 0, 1) := by decide +kernel
theorem dMo_isIt_9 : decode mMo_isIt.2.1 9 = .ok (.getfield 23, 3) := by decide +kernel
theorem dMo_isIt_12 : decode mMo_isIt.2.1 12 = .ok (.aload_n 0, 1) := by decide +kernel
theorem dMo_isIt_13 : decode mMo_isIt.2.1 13 = .ok (.getfield 128, 3) := by decide +kernel
theorem dMo_isIt_16 : decode mMo_isIt.2.1 16 = .ok (.caload, 1) := by decide +kernel
theorem dMo_isIt_17 : decode mMo_isIt.2.1 17 = .ok (.iload_n 1, 1) := by decide +kernel
theorem dMo_isIt_18 : decode mMo_isIt.2.1 18 = .ok (.if_icmp .ne 7, 3) := by decide +kernel
theorem dMo_isIt_21 : decode mMo_isIt.2.1 21 = .ok (.iconst 1, 1) := by decide +kernel
theorem dMo_isIt_22 : decode mMo_isIt.2.1 22 = .ok (.goto 4, 3) := by decide +kernel
theorem dMo_isIt_25 : decode mMo_isIt.2.1 25 = .ok (.iconst 0, 1) := by decide +kernel
theorem dMo_isIt_26 : decode mMo_isIt.2.1 26 = .ok (.ireturn, 1) := by decide +kernel
theorem bMo_isIt_0 {a1 : Int32} (hX : X.length = 13) (k1 : (¬ (mem 193 9) = 4) → P (.inl (some (.int 0)), (hpo X mem sw o e))) (h2 : ((mem 193 9) = 4) → inx (mem 193 10) 200) (k3 : ((mem 193 9) = 4) → (¬ (mem 198 (Int32.toNatClampNeg (mem 193 10))) = a1) → P (.inl (some (.int 0)), (hpo X mem sw o e))) (k4 : ((mem 193 9) = 4) → ((mem 198 (Int32.toNatClampNeg (mem 193 10))) = a1) → P (.inl (some (.int 1)), (hpo X mem sw o e))) : QW d mMo_isIt 0 (qen 2 [.ref 193, .int a1]) [] (hpo X mem sw o e) P := by
  show QW d mMo_isIt 0 [.val (.ref 193), .val (.int a1)] [] (hpo X mem sw o e) P
  refine QW.aload_n dMo_isIt_0 rfl rfl ?_
  refine MW.geti hX dMo_isIt_1 fMo_135 rfl rfl ?_
  refine QW.iconst (v := 4) dMo_isIt_4 (by decide) ?_
  refine QW.icmp_ne (tgt := 25) dMo_isIt_5 (by decide) (fun z0 => ?_) (fun z0 => ?_)
  · refine QW.iconst (v := 0) dMo_isIt_25 (by decide) ?_
    exact QW.iret dMo_isIt_26 rfl rfl (k1 z0)
  · refine QW.aload_n dMo_isIt_8 rfl rfl ?_
    refine MW.getr (r' := 198) hX dMo_isIt_9 fMo_23 rfl rfl (by cases sw <;> rfl) ?_
    refine QW.aload_n dMo_isIt_12 rfl rfl ?_
    refine MW.geti hX dMo_isIt_13 fMo_128 rfl rfl ?_
    refine MW.cald hX dMo_isIt_16 rfl (h2 z0).1 (rep_get (h2 z0).2) ?_
    refine QW.iload_n dMo_isIt_17 rfl rfl ?_
    refine QW.icmp_ne (tgt := 25) dMo_isIt_18 (by decide) (fun z1 => ?_) (fun z1 => ?_)
    · refine QW.iconst (v := 0) dMo_isIt_25 (by decide) ?_
      exact QW.iret dMo_isIt_26 rfl rfl (k3 z0 z1)
    · refine QW.iconst (v := 1) dMo_isIt_21 (by decide) ?_
      refine QW.goto (tgt := 26) dMo_isIt_22 (by decide) ?_
      exact QW.iret dMo_isIt_26 rfl rfl (k4 z0 z1)
theorem dMo_passes_0 : decode mMo_passes.2.1 0 = .ok (.aload_n 0, 1) := by decide +kernel
theorem dMo_passes_1 : decode mMo_passes.2.1 1 = .ok (.iload_n 1, 1) := by decide +kernel
theorem dMo_passes_2 : decode mMo_passes.2.1 2 = .ok (.invokevirtual 151, 3) := by decide +kernel
theorem dMo_passes_5 : decode mMo_passes.2.1 5 = .ok (.istore_n 2, 1) := by decide +kernel
theorem dMo_passes_6 : decode mMo_passes.2.1 6 = .ok (.iload_n 2, 1) := by decide +kernel
theorem dMo_passes_7 : decode mMo_passes.2.1 7 = .ok (.ifCond .eq 7, 3) := by decide +kernel
theorem dMo_passes_10 : decode mMo_passes.2.1 10 = .ok (.aload_n 0, 1) := by decide +kernel
theorem dMo_passes_11 : decode mMo_passes.2.1 11 = .ok (.invokevirtual 154, 3) := by decide +kernel
theorem dMo_passes_14 : decode mMo_passes.2.1 14 = .ok (.iload_n 2, 1) := by decide +kernel
theorem dMo_passes_15 : decode mMo_passes.2.1 15 = .ok (.ireturn, 1) := by decide +kernel
def lMo_passes_5 (a1 : Int32) : List Slot := [.val (.ref 193), .val (.int a1), .unset]
def lMo_passes_14 (a1 : Int32) (a2 : Int32) : List Slot := [.val (.ref 193), .val (.int a1), .val (.int a2)]
theorem bMo_passes_0 {a1 : Int32} (hX : X.length = 13) (k1 : QW d mMo_isIt 0 (qen 2 [.ref 193, .int a1]) [] (hpo X mem sw o e) (qcl d mMo_passes 2 5 (lMo_passes_5 a1) [] P)) : QW (d + 1) mMo_passes 0 (qen 3 [.ref 193, .int a1]) [] (hpo X mem sw o e) P := by
  show QW (d + 1) mMo_passes 0 [.val (.ref 193), .val (.int a1), .unset] [] (hpo X mem sw o e) P
  refine QW.aload_n dMo_passes_0 rfl rfl ?_
  refine QW.iload_n dMo_passes_1 rfl rfl ?_
  exact MW.calV (as := [.int a1]) (rest := []) hX dMo_passes_2 eMo_isIt lMo_151 iMo_isIt vMo_isIt rfl rfl rfl rfl rfl rfl (Nat.le_of_ble_eq_true rfl) rfl k1
theorem bMo_passes_5 {a1 : Int32} {s0 : Int32} (hX : X.length = 13) (k1 : (s0 = 0) → QW (d + 1) mMo_passes 14 (lMo_passes_14 a1 s0) [] (hpo X mem sw o e) P) (k2 : (¬ s0 = 0) → QW d mMo_next 0 (qen 2 [.ref 193]) [] (hpo X mem sw o e) (qcl d mMo_passes 11 14 (lMo_passes_14 a1 s0) [] P)) : QW (d + 1) mMo_passes 5 (lMo_passes_5 a1) [.int s0] (hpo X mem sw o e) P := by
  show QW (d + 1) mMo_passes 5 [.val (.ref 193), .val (.int a1), .unset] [.int s0] (hpo X mem sw o e) P
  refine QW.istore_n (ls' := [.val (.ref 193), .val (.int a1), .val (.int s0)]) dMo_passes_5 rfl rfl ?_
  refine QW.iload_n dMo_passes_6 rfl rfl ?_
  refine QW.if_eq (tgt := 14) dMo_passes_7 (by decide) (fun z0 => ?_) (fun z0 => ?_)
  · exact (k1 z0)
  · refine QW.aload_n dMo_passes_10 rfl rfl ?_
    exact MW.calV (as := []) (rest := []) hX dMo_passes_11 eMo_next lMo_154 iMo_next vMo_next rfl rfl rfl rfl rfl rfl (Nat.le_of_ble_eq_true rfl) rfl (k2 z0)
theorem bMo_passes_14 {a1 : Int32} {a2 : Int32} (hX : X.length = 13) (h1 : narrow .boolean (.int a2) = .int a2) (k2 : P (.inl (some (.int a2)), (hpo X mem sw o e))) : QW d mMo_passes 14 (lMo_passes_14 a1 a2) [] (hpo X mem sw o e) P := by
  show QW d mMo_passes 14 [.val (.ref 193), .val (.int a1), .val (.int a2)] [] (hpo X mem sw o e) P
  refine QW.iload_n dMo_passes_14 rfl rfl ?_
  exact QW.iret dMo_passes_15 rfl h1 k2
theorem dMo_isWord_0 : decode mMo_isWord.2.1 0 = .ok (.aload_n 0, 1) := by decide +kernel
theorem dMo_isWord_1 : decode mMo_isWord.2.1 1 = .ok (.getfield 135, 3) := by decide +kernel
theorem dMo_isWord_4 : decode mMo_isWord.2.1 4 = .ok (.iconst 1, 1) := by decide +kernel
theorem dMo_isWord_5 : decode mMo_isWord.2.1 5 = .ok (.if_icmp .ne 69, 3) := by decide +kernel
theorem dMo_isWord_8 : decode mMo_isWord.2.1 8 = .ok (.aload_n 0, 1) := by decide +kernel
theorem dMo_isWord_9 : decode mMo_isWord.2.1 9 = .ok (.getfield 125, 3) := by decide +kernel
theorem dMo_isWord_12 : decode mMo_isWord.2.1 12 = .ok (.aload_n 0, 1) := by decide +kernel
theorem dMo_isWord_13 : decode mMo_isWord.2.1 13 = .ok (.getfield 128, 3) := by decide +kernel
theorem dMo_isWord_16 : decode mMo_isWord.2.1 16 = .ok (.isub, 1) := by decide +kernel
theorem dMo_isWord_17 : decode mMo_isWord.2.1 17 = .ok (.iload_n 1, 1) := by decide +kernel
theorem dMo_isWord_18 : decode mMo_isWord.2.1 18 = .ok (.if_icmp .ne 56, 3) := by decide +kernel
theorem dMo_isWord_21 : decode mMo_isWord.2.1 21 = .ok (.aload_n 0, 1) := by decide +kernel
theorem dMo_isWord_22 : decode mMo_isWord.2.1 22 = .ok (.getfield 23, 3) := by decide +kernel
theorem dMo_isWord_25 : decode mMo_isWord.2.1 25 = .ok (.aload_n 0, 1) := by decide +kernel
theorem dMo_isWord_26 : decode mMo_isWord.2.1 26 = .ok (.getfield 128, 3) := by decide +kernel
theorem dMo_isWord_29 : decode mMo_isWord.2.1 29 = .ok (.caload, 1) := by decide +kernel
theorem dMo_isWord_30 : decode mMo_isWord.2.1 30 = .ok (.iload_n 2, 1) := by decide +kernel
theorem dMo_isWord_31 : decode mMo_isWord.2.1 31 = .ok (.if_icmp .ne 43, 3) := by decide +kernel
theorem dMo_isWord_34 : decode mMo_isWord.2.1 34 = .ok (.aload_n 0, 1) := by decide +kernel
theorem dMo_isWord_35 : decode mMo_isWord.2.1 35 = .ok (.getfield 23, 3) := by decide +kernel
theorem dMo_isWord_38 : decode mMo_isWord.2.1 38 = .ok (.aload_n 0, 1) := by decide +kernel
theorem dMo_isWord_39 : decode mMo_isWord.2.1 39 = .ok (.getfield 128, 3) := by decide +kernel
theorem dMo_isWord_42 : decode mMo_isWord.2.1 42 = .ok (.iconst 1, 1) := by decide +kernel
theorem dMo_isWord_43 : decode mMo_isWord.2.1 43 = .ok (.iadd, 1) := by decide +kernel
theorem dMo_isWord_44 : decode mMo_isWord.2.1 44 = .ok (.caload, 1) := by decide +kernel
theorem dMo_isWord_45 : decode mMo_isWord.2.1 45 = .ok (.iload_n 3, 1) := by decide +kernel
theorem dMo_isWord_46 : decode mMo_isWord.2.1 46 = .ok (.if_icmp .ne 28, 3) := by decide +kernel
theorem dMo_isWord_49 : decode mMo_isWord.2.1 49 = .ok (.iload_n 1, 1) := by decide +kernel
theorem dMo_isWord_50 : decode mMo_isWord.2.1 50 = .ok (.iconst 2, 1) := by decide +kernel
theorem dMo_isWord_51 : decode mMo_isWord.2.1 51 = .ok (.if_icmp .eq 19, 3) := by decide +kernel
theorem dMo_isWord_54 : decode mMo_isWord.2.1 54 = .ok (.aload_n 0, 1) := by decide +kernel
theorem dMo_isWord_55 : decode mMo_isWord.2.1 55 = .ok (.getfield 23, 3) := by decide +kernel
theorem dMo_isWord_58 : decode mMo_isWord.2.1 58 = .ok (.aload_n 0, 1) := by decide +kernel
theorem dMo_isWord_59 : decode mMo_isWord.2.1 59 = .ok (.getfield 128, 3) := by decide +kernel
theorem dMo_isWord_62 : decode mMo_isWord.2.1 62 = .ok (.iconst 2, 1) := by decide +kernel
theorem dMo_isWord_63 : decode mMo_isWord.2.1 63 = .ok (.iadd, 1) := by decide +kernel
theorem dMo_isWord_64 : decode mMo_isWord.2.1 64 = .ok (.caload, 1) := by decide +kernel
theorem dMo_isWord_65 : decode mMo_isWord.2.1 65 = .ok (.iload 4, 2) := by decide +kernel
theorem dMo_isWord_67 : decode mMo_isWord.2.1 67 = .ok (.if_icmp .ne 7, 3) := by decide +kernel
theorem dMo_isWord_70 : decode mMo_isWord.2.1 70 = .ok (.iconst 1, 1) := by decide +kernel
theorem dMo_isWord_71 : decode mMo_isWord.2.1 71 = .ok (.goto 4, 3) := by decide +kernel
theorem dMo_isWord_74 : decode mMo_isWord.2.1 74 = .ok (.iconst 0, 1) := by decide +kernel
theorem dMo_isWord_75 : decode mMo_isWord.2.1 75 = .ok (.ireturn, 1) := by decide +kernel
def lMo_isWord_70 (a1 : Int32) (a2 : Int32) (a3 : Int32) (a4 : Int32) : List Slot := [.val (.ref 193), .val (.int a1), .val (.int a2), .val (.int a3), .val (.int a4)]
theorem bMo_isWord_0 {a1 : Int32} {a2 : Int32} {a3 : Int32} {a4 : Int32} (hX : X.length = 13) (k1 : (¬ (mem 193 9) = 1) → P (.inl (some (.int 0)), (hpo X mem sw o e))) (k2 : ((mem 193 9) = 1) → (¬ ((mem 193 11) - (mem 193 10)) = a1) → P (.inl (some (.int 0)), (hpo X mem sw o e))) (h3 : ((mem 193 9) = 1) → (((mem 193 11) - (mem 193 10)) = a1) → inx (mem 193 10) 200) (k4 : ((mem 193 9) = 1) → (((mem 193 11) - (mem 193 10)) = a1) → (¬ (mem 198 (Int32.toNatClampNeg (mem 193 10))) = a2) → P (.inl (some (.int 0)), (hpo X mem sw o e))) (h5 : ((mem 193 9) = 1) → (((mem 193 11) - (mem 193 10)) = a1) → ((mem 198 (Int32.toNatClampNeg (mem 193 10))) = a2) → inx ((mem 193 10) + 1) 200) (k6 : ((mem 193 9) = 1) → (((mem 193 11) - (mem 193 10)) = a1) → ((mem 198 (Int32.toNatClampNeg (mem 193 10))) = a2) → (¬ (mem 198 (Int32.toNatClampNeg ((mem 193 10) + 1))) = a3) → P (.inl (some (.int 0)), (hpo X mem sw o e))) (k7 : ((mem 193 9) = 1) → (((mem 193 11) - (mem 193 10)) = a1) → ((mem 198 (Int32.toNatClampNeg (mem 193 10))) = a2) → ((mem 198 (Int32.toNatClampNeg ((mem 193 10) + 1))) = a3) → (a1 = 2) → QW d mMo_isWord 70 (lMo_isWord_70 a1 a2 a3 a4) [] (hpo X mem sw o e) P) (h8 : ((mem 193 9) = 1) → (((mem 193 11) - (mem 193 10)) = a1) → ((mem 198 (Int32.toNatClampNeg (mem 193 10))) = a2) → ((mem 198 (Int32.toNatClampNeg ((mem 193 10) + 1))) = a3) → (¬ a1 = 2) → inx ((mem 193 10) + 2) 200) (k9 : ((mem 193 9) = 1) → (((mem 193 11) - (mem 193 10)) = a1) → ((mem 198 (Int32.toNatClampNeg (mem 193 10))) = a2) → ((mem 198 (Int32.toNatClampNeg ((mem 193 10) + 1))) = a3) → (¬ a1 = 2) → (¬ (mem 198 (Int32.toNatClampNeg ((mem 193 10) + 2))) = a4) → P (.inl (some (.int 0)), (hpo X mem sw o e))) (k10 : ((mem 193 9) = 1) → (((mem 193 11) - (mem 193 10)) = a1) → ((mem 198 (Int32.toNatClampNeg (mem 193 10))) = a2) → ((mem 198 (Int32.toNatClampNeg ((mem 193 10) + 1))) = a3) → (¬ a1 = 2) → ((mem 198 (Int32.toNatClampNeg ((mem 193 10) + 2))) = a4) → QW d mMo_isWord 70 (lMo_isWord_70 a1 a2 a3 a4) [] (hpo X mem sw o e) P) : QW d mMo_isWord 0 (qen 5 [.ref 193, .int a1, .int a2, .int a3, .int a4]) [] (hpo X mem sw o e) P := by
  show QW d mMo_isWord 0 [.val (.ref 193), .val (.int a1), .val (.int a2), .val (.int a3), .val (.int a4)] [] (hpo X mem sw o e) P
  refine QW.aload_n dMo_isWord_0 rfl rfl ?_
  refine MW.geti hX dMo_isWord_1 fMo_135 rfl rfl ?_
  refine QW.iconst (v := 1) dMo_isWord_4 (by decide) ?_
  refine QW.icmp_ne (tgt := 74) dMo_isWord_5 (by decide) (fun z0 => ?_) (fun z0 => ?_)
  · refine QW.iconst (v := 0) dMo_isWord_74 (by decide) ?_
    exact QW.iret dMo_isWord_75 rfl rfl (k1 z0)
  · refine QW.aload_n dMo_isWord_8 rfl rfl ?_
    refine MW.geti hX dMo_isWord_9 fMo_125 rfl rfl ?_
    refine QW.aload_n dMo_isWord_12 rfl rfl ?_
    refine MW.geti hX dMo_isWord_13 fMo_128 rfl rfl ?_
    refine QW.isub dMo_isWord_16 ?_
    refine QW.iload_n dMo_isWord_17 rfl rfl ?_
    refine QW.icmp_ne (tgt := 74) dMo_isWord_18 (by decide) (fun z1 => ?_) (fun z1 => ?_)
    · refine QW.iconst (v := 0) dMo_isWord_74 (by decide) ?_
      exact QW.iret dMo_isWord_75 rfl rfl (k2 z0 z1)
    · refine QW.aload_n dMo_isWord_21 rfl rfl ?_
      refine MW.getr (r' := 198) hX dMo_isWord_22 fMo_23 rfl rfl (by cases sw <;> rfl) ?_
      refine QW.aload_n dMo_isWord_25 rfl rfl ?_
      refine MW.geti hX dMo_isWord_26 fMo_128 rfl rfl ?_
      refine MW.cald hX dMo_isWord_29 rfl (h3 z0 z1).1 (rep_get (h3 z0 z1).2) ?_
      refine QW.iload_n dMo_isWord_30 rfl rfl ?_
      refine QW.icmp_ne (tgt := 74) dMo_isWord_31 (by decide) (fun z2 => ?_) (fun z2 => ?_)
      · refine QW.iconst (v := 0) dMo_isWord_74 (by decide) ?_
        exact QW.iret dMo_isWord_75 rfl rfl (k4 z0 z1 z2)
      · refine QW.aload_n dMo_isWord_34 rfl rfl ?_
        refine MW.getr (r' := 198) hX dMo_isWord_35 fMo_23 rfl rfl (by cases sw <;> rfl) ?_
        refine QW.aload_n dMo_isWord_38 rfl rfl ?_
        refine MW.geti hX dMo_isWord_39 fMo_128 rfl rfl ?_
        refine QW.iconst (v := 1) dMo_isWord_42 (by decide) ?_
        refine QW.iadd dMo_isWord_43 ?_
        refine MW.cald hX dMo_isWord_44 rfl (h5 z0 z1 z2).1 (rep_get (h5 z0 z1 z2).2) ?_
        refine QW.iload_n dMo_isWord_45 rfl rfl ?_
        refine QW.icmp_ne (tgt := 74) dMo_isWord_46 (by decide) (fun z3 => ?_) (fun z3 => ?_)
        · refine QW.iconst (v := 0) dMo_isWord_74 (by decide) ?_
          exact QW.iret dMo_isWord_75 rfl rfl (k6 z0 z1 z2 z3)
        · refine QW.iload_n dMo_isWord_49 rfl rfl ?_
          refine QW.iconst (v := 2) dMo_isWord_50 (by decide) ?_
          refine QW.icmp_eq (tgt := 70) dMo_isWord_51 (by decide) (fun z4 => ?_) (fun z4 => ?_)
          · exact (k7 z0 z1 z2 z3 z4)
          · refine QW.aload_n dMo_isWord_54 rfl rfl ?_
            refine MW.getr (r' := 198) hX dMo_isWord_55 fMo_23 rfl rfl (by cases sw <;> rfl) ?_
            refine QW.aload_n dMo_isWord_58 rfl rfl ?_
            refine MW.geti hX dMo_isWord_59 fMo_128 rfl rfl ?_
            refine QW.iconst (v := 2) dMo_isWord_62 (by decide) ?_
            refine QW.iadd dMo_isWord_63 ?_
            refine MW.cald hX dMo_isWord_64 rfl (h8 z0 z1 z2 z3 z4).1 (rep_get (h8 z0 z1 z2 z3 z4).2) ?_
            refine QW.iload dMo_isWord_65 rfl ?_
            refine QW.icmp_ne (tgt := 74) dMo_isWord_67 (by decide) (fun z5 => ?_) (fun z5 => ?_)
            · refine QW.iconst (v := 0) dMo_isWord_74 (by decide) ?_
              exact QW.iret dMo_isWord_75 rfl rfl (k9 z0 z1 z2 z3 z4 z5)
            · exact (k10 z0 z1 z2 z3 z4 z5)
theorem bMo_isWord_70 {a1 : Int32} {a2 : Int32} {a3 : Int32} {a4 : Int32} (hX : X.length = 13) (k1 : P (.inl (some (.int 1)), (hpo X mem sw o e))) : QW d mMo_isWord 70 (lMo_isWord_70 a1 a2 a3 a4) [] (hpo X mem sw o e) P := by
  show QW d mMo_isWord 70 [.val (.ref 193), .val (.int a1), .val (.int a2), .val (.int a3), .val (.int a4)] [] (hpo X mem sw o e) P
  refine QW.iconst (v := 1) dMo_isWord_70 (by decide) ?_
  refine QW.goto (tgt := 75) dMo_isWord_71 (by decide) ?_
  exact QW.iret dMo_isWord_75 rfl rfl k1
theorem dMo_isWhere_0 : decode mMo_isWhere.2.1 0 = .ok (.aload_n 0, 1) := by decide +kernel
theorem dMo_isWhere_1 : decode mMo_isWhere.2.1 1 = .ok (.getfield 135, 3) := by decide +kernel
theorem dMo_isWhere_4 : decode mMo_isWhere.2.1 4 = .ok (.iconst 1, 1) := by decide +kernel
theorem dMo_isWhere_5 : decode mMo_isWhere.2.1 5 = .ok (.if_icmp .ne 98, 3) := by decide +kernel
theorem dMo_isWhere_8 : decode mMo_isWhere.2.1 8 = .ok (.aload_n 0, 1) := by decide +kernel
theorem dMo_isWhere_9 : decode mMo_isWhere.2.1 9 = .ok (.getfield 125, 3) := by decide +kernel
theorem dMo_isWhere_12 : decode mMo_isWhere.2.1 12 = .ok (.aload_n 0, 1) := by decide +kernel
theorem dMo_isWhere_13 : decode mMo_isWhere.2.1 13 = .ok (.getfield 128, 3) := by decide +kernel
theorem dMo_isWhere_16 : decode mMo_isWhere.2.1 16 = .ok (.isub, 1) := by decide +kernel
theorem dMo_isWhere_17 : decode mMo_isWhere.2.1 17 = .ok (.iconst 5, 1) := by decide +kernel
theorem dMo_isWhere_18 : decode mMo_isWhere.2.1 18 = .ok (.if_icmp .ne 85, 3) := by decide +kernel
theorem dMo_isWhere_21 : decode mMo_isWhere.2.1 21 = .ok (.aload_n 0, 1) := by decide +kernel
theorem dMo_isWhere_22 : decode mMo_isWhere.2.1 22 = .ok (.getfield 23, 3) := by decide +kernel
theorem dMo_isWhere_25 : decode mMo_isWhere.2.1 25 = .ok (.aload_n 0, 1) := by decide +kernel
theorem dMo_isWhere_26 : decode mMo_isWhere.2.1 26 = .ok (.getfield 128, 3) := by decide +kernel
theorem dMo_isWhere_29 : decode mMo_isWhere.2.1 29 = .ok (.caload, 1) := by decide +kernel
theorem dMo_isWhere_30 : decode mMo_isWhere.2.1 30 = .ok (.bipush 119, 2) := by decide +kernel
theorem dMo_isWhere_32 : decode mMo_isWhere.2.1 32 = .ok (.if_icmp .ne 71, 3) := by decide +kernel
theorem dMo_isWhere_35 : decode mMo_isWhere.2.1 35 = .ok (.aload_n 0, 1) := by decide +kernel
theorem dMo_isWhere_36 : decode mMo_isWhere.2.1 36 = .ok (.getfield 23, 3) := by decide +kernel
theorem dMo_isWhere_39 : decode mMo_isWhere.2.1 39 = .ok (.aload_n 0, 1) := by decide +kernel
theorem dMo_isWhere_40 : decode mMo_isWhere.2.1 40 = .ok (.getfield 128, 3) := by decide +kernel
theorem dMo_isWhere_43 : decode mMo_isWhere.2.1 43 = .ok (.iconst 1, 1) := by decide +kernel
theorem dMo_isWhere_44 : decode mMo_isWhere.2.1 44 = .ok (.iadd, 1) := by decide +kernel
theorem dMo_isWhere_45 : decode mMo_isWhere.2.1 45 = .ok (.caload, 1) := by decide +kernel
theorem dMo_isWhere_46 : decode mMo_isWhere.2.1 46 = .ok (.bipush 104, 2) := by decide +kernel
theorem dMo_isWhere_48 : decode mMo_isWhere.2.1 48 = .ok (.if_icmp .ne 55, 3) := by decide +kernel
theorem dMo_isWhere_51 : decode mMo_isWhere.2.1 51 = .ok (.aload_n 0, 1) := by decide +kernel
theorem dMo_isWhere_52 : decode mMo_isWhere.2.1 52 = .ok (.getfield 23, 3) := by decide +kernel
theorem dMo_isWhere_55 : decode mMo_isWhere.2.1 55 = .ok (.aload_n 0, 1) := by decide +kernel
theorem dMo_isWhere_56 : decode mMo_isWhere.2.1 56 = .ok (.getfield 128, 3) := by decide +kernel
theorem dMo_isWhere_59 : decode mMo_isWhere.2.1 59 = .ok (.iconst 2, 1) := by decide +kernel
theorem dMo_isWhere_60 : decode mMo_isWhere.2.1 60 = .ok (.iadd, 1) := by decide +kernel
theorem dMo_isWhere_61 : decode mMo_isWhere.2.1 61 = .ok (.caload, 1) := by decide +kernel
theorem dMo_isWhere_62 : decode mMo_isWhere.2.1 62 = .ok (.bipush 101, 2) := by decide +kernel
theorem dMo_isWhere_64 : decode mMo_isWhere.2.1 64 = .ok (.if_icmp .ne 39, 3) := by decide +kernel
theorem dMo_isWhere_67 : decode mMo_isWhere.2.1 67 = .ok (.aload_n 0, 1) := by decide +kernel
theorem dMo_isWhere_68 : decode mMo_isWhere.2.1 68 = .ok (.getfield 23, 3) := by decide +kernel
theorem dMo_isWhere_71 : decode mMo_isWhere.2.1 71 = .ok (.aload_n 0, 1) := by decide +kernel
theorem dMo_isWhere_72 : decode mMo_isWhere.2.1 72 = .ok (.getfield 128, 3) := by decide +kernel
theorem dMo_isWhere_75 : decode mMo_isWhere.2.1 75 = .ok (.iconst 3, 1) := by decide +kernel
theorem dMo_isWhere_76 : decode mMo_isWhere.2.1 76 = .ok (.iadd, 1) := by decide +kernel
theorem dMo_isWhere_77 : decode mMo_isWhere.2.1 77 = .ok (.caload, 1) := by decide +kernel
theorem dMo_isWhere_78 : decode mMo_isWhere.2.1 78 = .ok (.bipush 114, 2) := by decide +kernel
theorem dMo_isWhere_80 : decode mMo_isWhere.2.1 80 = .ok (.if_icmp .ne 23, 3) := by decide +kernel
theorem dMo_isWhere_83 : decode mMo_isWhere.2.1 83 = .ok (.aload_n 0, 1) := by decide +kernel
theorem dMo_isWhere_84 : decode mMo_isWhere.2.1 84 = .ok (.getfield 23, 3) := by decide +kernel
theorem dMo_isWhere_87 : decode mMo_isWhere.2.1 87 = .ok (.aload_n 0, 1) := by decide +kernel
theorem dMo_isWhere_88 : decode mMo_isWhere.2.1 88 = .ok (.getfield 128, 3) := by decide +kernel
theorem dMo_isWhere_91 : decode mMo_isWhere.2.1 91 = .ok (.iconst 4, 1) := by decide +kernel
theorem dMo_isWhere_92 : decode mMo_isWhere.2.1 92 = .ok (.iadd, 1) := by decide +kernel
theorem dMo_isWhere_93 : decode mMo_isWhere.2.1 93 = .ok (.caload, 1) := by decide +kernel
theorem dMo_isWhere_94 : decode mMo_isWhere.2.1 94 = .ok (.bipush 101, 2) := by decide +kernel
theorem dMo_isWhere_96 : decode mMo_isWhere.2.1 96 = .ok (.if_icmp .ne 7, 3) := by decide +kernel
theorem dMo_isWhere_99 : decode mMo_isWhere.2.1 99 = .ok (.iconst 1, 1) := by decide +kernel
theorem dMo_isWhere_100 : decode mMo_isWhere.2.1 100 = .ok (.goto 4, 3) := by decide +kernel
theorem dMo_isWhere_103 : decode mMo_isWhere.2.1 103 = .ok (.iconst 0, 1) := by decide +kernel
theorem dMo_isWhere_104 : decode mMo_isWhere.2.1 104 = .ok (.ireturn, 1) := by decide +kernel
theorem bMo_isWhere_0 (hX : X.length = 13) (k1 : (¬ (mem 193 9) = 1) → P (.inl (some (.int 0)), (hpo X mem sw o e))) (k2 : ((mem 193 9) = 1) → (¬ ((mem 193 11) - (mem 193 10)) = 5) → P (.inl (some (.int 0)), (hpo X mem sw o e))) (h3 : ((mem 193 9) = 1) → (((mem 193 11) - (mem 193 10)) = 5) → inx (mem 193 10) 200) (k4 : ((mem 193 9) = 1) → (((mem 193 11) - (mem 193 10)) = 5) → (¬ (mem 198 (Int32.toNatClampNeg (mem 193 10))) = 119) → P (.inl (some (.int 0)), (hpo X mem sw o e))) (h5 : ((mem 193 9) = 1) → (((mem 193 11) - (mem 193 10)) = 5) → ((mem 198 (Int32.toNatClampNeg (mem 193 10))) = 119) → inx ((mem 193 10) + 1) 200) (k6 : ((mem 193 9) = 1) → (((mem 193 11) - (mem 193 10)) = 5) → ((mem 198 (Int32.toNatClampNeg (mem 193 10))) = 119) → (¬ (mem 198 (Int32.toNatClampNeg ((mem 193 10) + 1))) = 104) → P (.inl (some (.int 0)), (hpo X mem sw o e))) (h7 : ((mem 193 9) = 1) → (((mem 193 11) - (mem 193 10)) = 5) → ((mem 198 (Int32.toNatClampNeg (mem 193 10))) = 119) → ((mem 198 (Int32.toNatClampNeg ((mem 193 10) + 1))) = 104) → inx ((mem 193 10) + 2) 200) (k8 : ((mem 193 9) = 1) → (((mem 193 11) - (mem 193 10)) = 5) → ((mem 198 (Int32.toNatClampNeg (mem 193 10))) = 119) → ((mem 198 (Int32.toNatClampNeg ((mem 193 10) + 1))) = 104) → (¬ (mem 198 (Int32.toNatClampNeg ((mem 193 10) + 2))) = 101) → P (.inl (some (.int 0)), (hpo X mem sw o e))) (h9 : ((mem 193 9) = 1) → (((mem 193 11) - (mem 193 10)) = 5) → ((mem 198 (Int32.toNatClampNeg (mem 193 10))) = 119) → ((mem 198 (Int32.toNatClampNeg ((mem 193 10) + 1))) = 104) → ((mem 198 (Int32.toNatClampNeg ((mem 193 10) + 2))) = 101) → inx ((mem 193 10) + 3) 200) (k10 : ((mem 193 9) = 1) → (((mem 193 11) - (mem 193 10)) = 5) → ((mem 198 (Int32.toNatClampNeg (mem 193 10))) = 119) → ((mem 198 (Int32.toNatClampNeg ((mem 193 10) + 1))) = 104) → ((mem 198 (Int32.toNatClampNeg ((mem 193 10) + 2))) = 101) → (¬ (mem 198 (Int32.toNatClampNeg ((mem 193 10) + 3))) = 114) → P (.inl (some (.int 0)), (hpo X mem sw o e))) (h11 : ((mem 193 9) = 1) → (((mem 193 11) - (mem 193 10)) = 5) → ((mem 198 (Int32.toNatClampNeg (mem 193 10))) = 119) → ((mem 198 (Int32.toNatClampNeg ((mem 193 10) + 1))) = 104) → ((mem 198 (Int32.toNatClampNeg ((mem 193 10) + 2))) = 101) → ((mem 198 (Int32.toNatClampNeg ((mem 193 10) + 3))) = 114) → inx ((mem 193 10) + 4) 200) (k12 : ((mem 193 9) = 1) → (((mem 193 11) - (mem 193 10)) = 5) → ((mem 198 (Int32.toNatClampNeg (mem 193 10))) = 119) → ((mem 198 (Int32.toNatClampNeg ((mem 193 10) + 1))) = 104) → ((mem 198 (Int32.toNatClampNeg ((mem 193 10) + 2))) = 101) → ((mem 198 (Int32.toNatClampNeg ((mem 193 10) + 3))) = 114) → (¬ (mem 198 (Int32.toNatClampNeg ((mem 193 10) + 4))) = 101) → P (.inl (some (.int 0)), (hpo X mem sw o e))) (k13 : ((mem 193 9) = 1) → (((mem 193 11) - (mem 193 10)) = 5) → ((mem 198 (Int32.toNatClampNeg (mem 193 10))) = 119) → ((mem 198 (Int32.toNatClampNeg ((mem 193 10) + 1))) = 104) → ((mem 198 (Int32.toNatClampNeg ((mem 193 10) + 2))) = 101) → ((mem 198 (Int32.toNatClampNeg ((mem 193 10) + 3))) = 114) → ((mem 198 (Int32.toNatClampNeg ((mem 193 10) + 4))) = 101) → P (.inl (some (.int 1)), (hpo X mem sw o e))) : QW d mMo_isWhere 0 (qen 1 [.ref 193]) [] (hpo X mem sw o e) P := by
  show QW d mMo_isWhere 0 [.val (.ref 193)] [] (hpo X mem sw o e) P
  refine QW.aload_n dMo_isWhere_0 rfl rfl ?_
  refine MW.geti hX dMo_isWhere_1 fMo_135 rfl rfl ?_
  refine QW.iconst (v := 1) dMo_isWhere_4 (by decide) ?_
  refine QW.icmp_ne (tgt := 103) dMo_isWhere_5 (by decide) (fun z0 => ?_) (fun z0 => ?_)
  · refine QW.iconst (v := 0) dMo_isWhere_103 (by decide) ?_
    exact QW.iret dMo_isWhere_104 rfl rfl (k1 z0)
  · refine QW.aload_n dMo_isWhere_8 rfl rfl ?_
    refine MW.geti hX dMo_isWhere_9 fMo_125 rfl rfl ?_
    refine QW.aload_n dMo_isWhere_12 rfl rfl ?_
    refine MW.geti hX dMo_isWhere_13 fMo_128 rfl rfl ?_
    refine QW.isub dMo_isWhere_16 ?_
    refine QW.iconst (v := 5) dMo_isWhere_17 (by decide) ?_
    refine QW.icmp_ne (tgt := 103) dMo_isWhere_18 (by decide) (fun z1 => ?_) (fun z1 => ?_)
    · refine QW.iconst (v := 0) dMo_isWhere_103 (by decide) ?_
      exact QW.iret dMo_isWhere_104 rfl rfl (k2 z0 z1)
    · refine QW.aload_n dMo_isWhere_21 rfl rfl ?_
      refine MW.getr (r' := 198) hX dMo_isWhere_22 fMo_23 rfl rfl (by cases sw <;> rfl) ?_
      refine QW.aload_n dMo_isWhere_25 rfl rfl ?_
      refine MW.geti hX dMo_isWhere_26 fMo_128 rfl rfl ?_
      refine MW.cald hX dMo_isWhere_29 rfl (h3 z0 z1).1 (rep_get (h3 z0 z1).2) ?_
      refine QW.bipush (v := 119) dMo_isWhere_30 (by decide) ?_
      refine QW.icmp_ne (tgt := 103) dMo_isWhere_32 (by decide) (fun z2 => ?_) (fun z2 => ?_)
      · refine QW.iconst (v := 0) dMo_isWhere_103 (by decide) ?_
        exact QW.iret dMo_isWhere_104 rfl rfl (k4 z0 z1 z2)
      · refine QW.aload_n dMo_isWhere_35 rfl rfl ?_
        refine MW.getr (r' := 198) hX dMo_isWhere_36 fMo_23 rfl rfl (by cases sw <;> rfl) ?_
        refine QW.aload_n dMo_isWhere_39 rfl rfl ?_
        refine MW.geti hX dMo_isWhere_40 fMo_128 rfl rfl ?_
        refine QW.iconst (v := 1) dMo_isWhere_43 (by decide) ?_
        refine QW.iadd dMo_isWhere_44 ?_
        refine MW.cald hX dMo_isWhere_45 rfl (h5 z0 z1 z2).1 (rep_get (h5 z0 z1 z2).2) ?_
        refine QW.bipush (v := 104) dMo_isWhere_46 (by decide) ?_
        refine QW.icmp_ne (tgt := 103) dMo_isWhere_48 (by decide) (fun z3 => ?_) (fun z3 => ?_)
        · refine QW.iconst (v := 0) dMo_isWhere_103 (by decide) ?_
          exact QW.iret dMo_isWhere_104 rfl rfl (k6 z0 z1 z2 z3)
        · refine QW.aload_n dMo_isWhere_51 rfl rfl ?_
          refine MW.getr (r' := 198) hX dMo_isWhere_52 fMo_23 rfl rfl (by cases sw <;> rfl) ?_
          refine QW.aload_n dMo_isWhere_55 rfl rfl ?_
          refine MW.geti hX dMo_isWhere_56 fMo_128 rfl rfl ?_
          refine QW.iconst (v := 2) dMo_isWhere_59 (by decide) ?_
          refine QW.iadd dMo_isWhere_60 ?_
          refine MW.cald hX dMo_isWhere_61 rfl (h7 z0 z1 z2 z3).1 (rep_get (h7 z0 z1 z2 z3).2) ?_
          refine QW.bipush (v := 101) dMo_isWhere_62 (by decide) ?_
          refine QW.icmp_ne (tgt := 103) dMo_isWhere_64 (by decide) (fun z4 => ?_) (fun z4 => ?_)
          · refine QW.iconst (v := 0) dMo_isWhere_103 (by decide) ?_
            exact QW.iret dMo_isWhere_104 rfl rfl (k8 z0 z1 z2 z3 z4)
          · refine QW.aload_n dMo_isWhere_67 rfl rfl ?_
            refine MW.getr (r' := 198) hX dMo_isWhere_68 fMo_23 rfl rfl (by cases sw <;> rfl) ?_
            refine QW.aload_n dMo_isWhere_71 rfl rfl ?_
            refine MW.geti hX dMo_isWhere_72 fMo_128 rfl rfl ?_
            refine QW.iconst (v := 3) dMo_isWhere_75 (by decide) ?_
            refine QW.iadd dMo_isWhere_76 ?_
            refine MW.cald hX dMo_isWhere_77 rfl (h9 z0 z1 z2 z3 z4).1 (rep_get (h9 z0 z1 z2 z3 z4).2) ?_
            refine QW.bipush (v := 114) dMo_isWhere_78 (by decide) ?_
            refine QW.icmp_ne (tgt := 103) dMo_isWhere_80 (by decide) (fun z5 => ?_) (fun z5 => ?_)
            · refine QW.iconst (v := 0) dMo_isWhere_103 (by decide) ?_
              exact QW.iret dMo_isWhere_104 rfl rfl (k10 z0 z1 z2 z3 z4 z5)
            · refine QW.aload_n dMo_isWhere_83 rfl rfl ?_
              refine MW.getr (r' := 198) hX dMo_isWhere_84 fMo_23 rfl rfl (by cases sw <;> rfl) ?_
              refine QW.aload_n dMo_isWhere_87 rfl rfl ?_
              refine MW.geti hX dMo_isWhere_88 fMo_128 rfl rfl ?_
              refine QW.iconst (v := 4) dMo_isWhere_91 (by decide) ?_
              refine QW.iadd dMo_isWhere_92 ?_
              refine MW.cald hX dMo_isWhere_93 rfl (h11 z0 z1 z2 z3 z4 z5).1 (rep_get (h11 z0 z1 z2 z3 z4 z5).2) ?_
              refine QW.bipush (v := 101) dMo_isWhere_94 (by decide) ?_
              refine QW.icmp_ne (tgt := 103) dMo_isWhere_96 (by decide) (fun z6 => ?_) (fun z6 => ?_)
              · refine QW.iconst (v := 0) dMo_isWhere_103 (by decide) ?_
                exact QW.iret dMo_isWhere_104 rfl rfl (k12 z0 z1 z2 z3 z4 z5 z6)
              · refine QW.iconst (v := 1) dMo_isWhere_99 (by decide) ?_
                refine QW.goto (tgt := 104) dMo_isWhere_100 (by decide) ?_
                exact QW.iret dMo_isWhere_104 rfl rfl (k13 z0 z1 z2 z3 z4 z5 z6)
theorem dMo_passesWord_0 : decode mMo_passesWord.2.1 0 = .ok (.iload_n 1, 1) := by decide +kernel
theorem dMo_passesWord_1 : decode mMo_passesWord.2.1 1 = .ok (.ifCond .eq 7, 3) := by decide +kernel
theorem dMo_passesWord_4 : decode mMo_passesWord.2.1 4 = .ok (.aload_n 0, 1) := by decide +kernel
theorem dMo_passesWord_5 : decode mMo_passesWord.2.1 5 = .ok (.invokevirtual 154, 3) := by decide +kernel
theorem dMo_passesWord_8 : decode mMo_passesWord.2.1 8 = .ok (.iload_n 1, 1) := by decide +kernel
theorem dMo_passesWord_9 : decode mMo_passesWord.2.1 9 = .ok (.ireturn, 1) := by decide +kernel
def lMo_passesWord_8 (a1 : Int32) : List Slot := [.val (.ref 193), .val (.int a1)]
theorem bMo_passesWord_0 {a1 : Int32} (hX : X.length = 13) (k1 : (a1 = 0) → QW (d + 1) mMo_passesWord 8 (lMo_passesWord_8 a1) [] (hpo X mem sw o e) P) (k2 : (¬ a1 = 0) → QW d mMo_next 0 (qen 2 [.ref 193]) [] (hpo X mem sw o e) (qcl d mMo_passesWord 5 8 (lMo_passesWord_8 a1) [] P)) : QW (d + 1) mMo_passesWord 0 (qen 2 [.ref 193, .int a1]) [] (hpo X mem sw o e) P := by
  show QW (d + 1) mMo_passesWord 0 [.val (.ref 193), .val (.int a1)] [] (hpo X mem sw o e) P
  refine QW.iload_n dMo_passesWord_0 rfl rfl ?_
  refine QW.if_eq (tgt := 8) dMo_passesWord_1 (by decide) (fun z0 => ?_) (fun z0 => ?_)
  · exact (k1 z0)
  · refine QW.aload_n dMo_passesWord_4 rfl rfl ?_
    exact MW.calV (as := []) (rest := []) hX dMo_passesWord_5 eMo_next lMo_154 iMo_next vMo_next rfl rfl rfl rfl rfl rfl (Nat.le_of_ble_eq_true rfl) rfl (k2 z0)
theorem bMo_passesWord_8 {a1 : Int32} (hX : X.length = 13) (h1 : narrow .boolean (.int a1) = .int a1) (k2 : P (.inl (some (.int a1)), (hpo X mem sw o e))) : QW d mMo_passesWord 8 (lMo_passesWord_8 a1) [] (hpo X mem sw o e) P := by
  show QW d mMo_passesWord 8 [.val (.ref 193), .val (.int a1)] [] (hpo X mem sw o e) P
  refine QW.iload_n dMo_passesWord_8 rfl rfl ?_
  exact QW.iret dMo_passesWord_9 rfl h1 k2
theorem dMo_value_0 : decode mMo_value.2.1 0 = .ok (.aload_n 0, 1) := by decide +kernel
theorem dMo_value_1 : decode mMo_value.2.1 1 = .ok (.getfield 135, 3) := by decide +kernel
theorem dMo_value_4 : decode mMo_value.2.1 4 = .ok (.iconst 1, 1) := by decide +kernel
theorem dMo_value_5 : decode mMo_value.2.1 5 = .ok (.if_icmp .ne 73, 3) := by decide +kernel
theorem dMo_value_8 : decode mMo_value.2.1 8 = .ok (.aload_n 0, 1) := by decide +kernel
theorem dMo_value_9 : decode mMo_value.2.1 9 = .ok (.getfield 125, 3) := by decide +kernel
theorem dMo_value_12 : decode mMo_value.2.1 12 = .ok (.aload_n 0, 1) := by decide +kernel
theorem dMo_value_13 : decode mMo_value.2.1 13 = .ok (.getfield 128, 3) := by decide +kernel
theorem dMo_value_16 : decode mMo_value.2.1 16 = .ok (.isub, 1) := by decide +kernel
theorem dMo_value_17 : decode mMo_value.2.1 17 = .ok (.iconst 1, 1) := by decide +kernel
theorem dMo_value_18 : decode mMo_value.2.1 18 = .ok (.if_icmp .ne 60, 3) := by decide +kernel
theorem dMo_value_21 : decode mMo_value.2.1 21 = .ok (.aload_n 0, 1) := by decide +kernel
theorem dMo_value_22 : decode mMo_value.2.1 22 = .ok (.getfield 23, 3) := by decide +kernel
theorem dMo_value_25 : decode mMo_value.2.1 25 = .ok (.aload_n 0, 1) := by decide +kernel
theorem dMo_value_26 : decode mMo_value.2.1 26 = .ok (.getfield 128, 3) := by decide +kernel
theorem dMo_value_29 : decode mMo_value.2.1 29 = .ok (.caload, 1) := by decide +kernel
theorem dMo_value_30 : decode mMo_value.2.1 30 = .ok (.bipush 97, 2) := by decide +kernel
theorem dMo_value_32 : decode mMo_value.2.1 32 = .ok (.isub, 1) := by decide +kernel
theorem dMo_value_33 : decode mMo_value.2.1 33 = .ok (.istore_n 1, 1) := by decide +kernel
theorem dMo_value_34 : decode mMo_value.2.1 34 = .ok (.aload_n 0, 1) := by decide +kernel
theorem dMo_value_35 : decode mMo_value.2.1 35 = .ok (.invokevirtual 154, 3) := by decide +kernel
theorem dMo_value_38 : decode mMo_value.2.1 38 = .ok (.aload_n 0, 1) := by decide +kernel
theorem dMo_value_39 : decode mMo_value.2.1 39 = .ok (.bipush 46, 2) := by decide +kernel
theorem dMo_value_41 : decode mMo_value.2.1 41 = .ok (.invokevirtual 157, 3) := by decide +kernel
theorem dMo_value_44 : decode mMo_value.2.1 44 = .ok (.ifCond .eq 11, 3) := by decide +kernel
theorem dMo_value_47 : decode mMo_value.2.1 47 = .ok (.aload_n 0, 1) := by decide +kernel
theorem dMo_value_48 : decode mMo_value.2.1 48 = .ok (.getfield 135, 3) := by decide +kernel
theorem dMo_value_51 : decode mMo_value.2.1 51 = .ok (.iconst 3, 1) := by decide +kernel
theorem dMo_value_52 : decode mMo_value.2.1 52 = .ok (.if_icmp .eq 5, 3) := by decide +kernel
theorem dMo_value_55 : decode mMo_value.2.1 55 = .ok (.iconst (-1), 1) := by decide +kernel
theorem dMo_value_56 : decode mMo_value.2.1 56 = .ok (.ireturn, 1) := by decide +kernel
theorem dMo_value_57 : decode mMo_value.2.1 57 = .ok (.sipush 10000, 3) := by decide +kernel
theorem dMo_value_60 : decode mMo_value.2.1 60 = .ok (.sipush 1000, 3) := by decide +kernel
theorem dMo_value_63 : decode mMo_value.2.1 63 = .ok (.iload_n 1, 1) := by decide +kernel
theorem dMo_value_64 : decode mMo_value.2.1 64 = .ok (.imul, 1) := by decide +kernel
theorem dMo_value_65 : decode mMo_value.2.1 65 = .ok (.iadd, 1) := by decide +kernel
theorem dMo_value_66 : decode mMo_value.2.1 66 = .ok (.aload_n 0, 1) := by decide +kernel
theorem dMo_value_67 : decode mMo_value.2.1 67 = .ok (.getfield 145, 3) := by decide +kernel
theorem dMo_value_70 : decode mMo_value.2.1 70 = .ok (.iadd, 1) := by decide +kernel
theorem dMo_value_71 : decode mMo_value.2.1 71 = .ok (.istore_n 2, 1) := by decide +kernel
theorem dMo_value_72 : decode mMo_value.2.1 72 = .ok (.aload_n 0, 1) := by decide +kernel
theorem dMo_value_73 : decode mMo_value.2.1 73 = .ok (.invokevirtual 154, 3) := by decide +kernel
theorem dMo_value_76 : decode mMo_value.2.1 76 = .ok (.iload_n 2, 1) := by decide +kernel
theorem dMo_value_77 : decode mMo_value.2.1 77 = .ok (.ireturn, 1) := by decide +kernel
theorem dMo_value_78 : decode mMo_value.2.1 78 = .ok (.aload_n 0, 1) := by decide +kernel
theorem dMo_value_79 : decode mMo_value.2.1 79 = .ok (.bipush 45, 2) := by decide +kernel
theorem dMo_value_81 : decode mMo_value.2.1 81 = .ok (.invokevirtual 157, 3) := by decide +kernel
theorem dMo_value_84 : decode mMo_value.2.1 84 = .ok (.istore_n 1, 1) := by decide +kernel
theorem dMo_value_85 : decode mMo_value.2.1 85 = .ok (.aload_n 0, 1) := by decide +kernel
theorem dMo_value_86 : decode mMo_value.2.1 86 = .ok (.getfield 135, 3) := by decide +kernel
theorem dMo_value_89 : decode mMo_value.2.1 89 = .ok (.iconst 3, 1) := by decide +kernel
theorem dMo_value_90 : decode mMo_value.2.1 90 = .ok (.if_icmp .eq 5, 3) := by decide +kernel
theorem dMo_value_93 : decode mMo_value.2.1 93 = .ok (.iconst (-1), 1) := by decide +kernel
theorem dMo_value_94 : decode mMo_value.2.1 94 = .ok (.ireturn, 1) := by decide +kernel
theorem dMo_value_95 : decode mMo_value.2.1 95 = .ok (.sipush 2000, 3) := by decide +kernel
theorem dMo_value_98 : decode mMo_value.2.1 98 = .ok (.iload_n 1, 1) := by decide +kernel
theorem dMo_value_99 : decode mMo_value.2.1 99 = .ok (.ifCond .eq 11, 3) := by decide +kernel
theorem dMo_value_102 : decode mMo_value.2.1 102 = .ok (.aload_n 0, 1) := by decide +kernel
theorem dMo_value_103 : decode mMo_value.2.1 103 = .ok (.getfield 145, 3) := by decide +kernel
theorem dMo_value_106 : decode mMo_value.2.1 106 = .ok (.ineg, 1) := by decide +kernel
theorem dMo_value_107 : decode mMo_value.2.1 107 = .ok (.goto 7, 3) := by decide +kernel
theorem dMo_value_110 : decode mMo_value.2.1 110 = .ok (.aload_n 0, 1) := by decide +kernel
theorem dMo_value_111 : decode mMo_value.2.1 111 = .ok (.getfield 145, 3) := by decide +kernel
theorem dMo_value_114 : decode mMo_value.2.1 114 = .ok (.iadd, 1) := by decide +kernel
theorem dMo_value_115 : decode mMo_value.2.1 115 = .ok (.istore_n 2, 1) := by decide +kernel
theorem dMo_value_116 : decode mMo_value.2.1 116 = .ok (.aload_n 0, 1) := by decide +kernel
theorem dMo_value_117 : decode mMo_value.2.1 117 = .ok (.invokevirtual 154, 3) := by decide +kernel
theorem dMo_value_120 : decode mMo_value.2.1 120 = .ok (.iload_n 2, 1) := by decide +kernel
theorem dMo_value_121 : decode mMo_value.2.1 121 = .ok (.ireturn, 1) := by decide +kernel
def lMo_value_38 (a1 : Int32) : List Slot := [.val (.ref 193), .val (.int a1), .unset]
def lMo_value_44 (a1 : Int32) : List Slot := [.val (.ref 193), .val (.int a1), .unset]
def lMo_value_76 (a1 : Int32) (a2 : Int32) : List Slot := [.val (.ref 193), .val (.int a1), .val (.int a2)]
def lMo_value_78  : List Slot := [.val (.ref 193), .unset, .unset]
def lMo_value_84  : List Slot := [.val (.ref 193), .unset, .unset]
def lMo_value_114 (a1 : Int32) : List Slot := [.val (.ref 193), .val (.int a1), .unset]
def lMo_value_120 (a1 : Int32) (a2 : Int32) : List Slot := [.val (.ref 193), .val (.int a1), .val (.int a2)]
theorem bMo_value_0 (hX : X.length = 13) (k1 : (¬ (mem 193 9) = 1) → QW (d + 1) mMo_value 78 lMo_value_78 [] (hpo X mem sw o e) P) (k2 : ((mem 193 9) = 1) → (¬ ((mem 193 11) - (mem 193 10)) = 1) → QW (d + 1) mMo_value 78 lMo_value_78 [] (hpo X mem sw o e) P) (h3 : ((mem 193 9) = 1) → (((mem 193 11) - (mem 193 10)) = 1) → inx (mem 193 10) 200) (k4 : ((mem 193 9) = 1) → (((mem 193 11) - (mem 193 10)) = 1) → QW d mMo_next 0 (qen 2 [.ref 193]) [] (hpo X mem sw o e) (qcl d mMo_value 35 38 (lMo_value_38 ((mem 198 (Int32.toNatClampNeg (mem 193 10))) - 97)) [] P)) : QW (d + 1) mMo_value 0 (qen 3 [.ref 193]) [] (hpo X mem sw o e) P := by
  show QW (d + 1) mMo_value 0 [.val (.ref 193), .unset, .unset] [] (hpo X mem sw o e) P
  refine QW.aload_n dMo_value_0 rfl rfl ?_
  refine MW.geti hX dMo_value_1 fMo_135 rfl rfl ?_
  refine QW.iconst (v := 1) dMo_value_4 (by decide) ?_
  refine QW.icmp_ne (tgt := 78) dMo_value_5 (by decide) (fun z0 => ?_) (fun z0 => ?_)
  · exact (k1 z0)
  · refine QW.aload_n dMo_value_8 rfl rfl ?_
    refine MW.geti hX dMo_value_9 fMo_125 rfl rfl ?_
    refine QW.aload_n dMo_value_12 rfl rfl ?_
    refine MW.geti hX dMo_value_13 fMo_128 rfl rfl ?_
    refine QW.isub dMo_value_16 ?_
    refine QW.iconst (v := 1) dMo_value_17 (by decide) ?_
    refine QW.icmp_ne (tgt := 78) dMo_value_18 (by decide) (fun z1 => ?_) (fun z1 => ?_)
    · exact (k2 z0 z1)
    · refine QW.aload_n dMo_value_21 rfl rfl ?_
      refine MW.getr (r' := 198) hX dMo_value_22 fMo_23 rfl rfl (by cases sw <;> rfl) ?_
      refine QW.aload_n dMo_value_25 rfl rfl ?_
      refine MW.geti hX dMo_value_26 fMo_128 rfl rfl ?_
      refine MW.cald hX dMo_value_29 rfl (h3 z0 z1).1 (rep_get (h3 z0 z1).2) ?_
      refine QW.bipush (v := 97) dMo_value_30 (by decide) ?_
      refine QW.isub dMo_value_32 ?_
      refine QW.istore_n (ls' := [.val (.ref 193), .val (.int ((mem 198 (Int32.toNatClampNeg (mem 193 10))) - 97)), .unset]) dMo_value_33 rfl rfl ?_
      refine QW.aload_n dMo_value_34 rfl rfl ?_
      exact MW.calV (as := []) (rest := []) hX dMo_value_35 eMo_next lMo_154 iMo_next vMo_next rfl rfl rfl rfl rfl rfl (Nat.le_of_ble_eq_true rfl) rfl (k4 z0 z1)
theorem bMo_value_38 {a1 : Int32} (hX : X.length = 13) (k1 : QW d mMo_passes 0 (qen 3 [.ref 193, .int 46]) [] (hpo X mem sw o e) (qcl d mMo_value 41 44 (lMo_value_44 a1) [] P)) : QW (d + 1) mMo_value 38 (lMo_value_38 a1) [] (hpo X mem sw o e) P := by
  show QW (d + 1) mMo_value 38 [.val (.ref 193), .val (.int a1), .unset] [] (hpo X mem sw o e) P
  refine QW.aload_n dMo_value_38 rfl rfl ?_
  refine QW.bipush (v := 46) dMo_value_39 (by decide) ?_
  exact MW.calV (as := [.int 46]) (rest := []) hX dMo_value_41 eMo_passes lMo_157 iMo_passes vMo_passes rfl rfl rfl rfl rfl rfl (Nat.le_of_ble_eq_true rfl) rfl k1
theorem bMo_value_44 {a1 : Int32} {s0 : Int32} (hX : X.length = 13) (k1 : (s0 = 0) → P (.inl (some (.int (-1))), (hpo X mem sw o e))) (k2 : (¬ s0 = 0) → ((mem 193 9) = 3) → QW d mMo_next 0 (qen 2 [.ref 193]) [] (hpo X mem sw o e) (qcl d mMo_value 73 76 (lMo_value_76 a1 ((10000 + (1000 * a1)) + (mem 193 12))) [] P)) (k3 : (¬ s0 = 0) → (¬ (mem 193 9) = 3) → P (.inl (some (.int (-1))), (hpo X mem sw o e))) : QW (d + 1) mMo_value 44 (lMo_value_44 a1) [.int s0] (hpo X mem sw o e) P := by
  show QW (d + 1) mMo_value 44 [.val (.ref 193), .val (.int a1), .unset] [.int s0] (hpo X mem sw o e) P
  refine QW.if_eq (tgt := 55) dMo_value_44 (by decide) (fun z0 => ?_) (fun z0 => ?_)
  · refine QW.iconst (v := (-1)) dMo_value_55 (by decide) ?_
    exact QW.iret dMo_value_56 rfl rfl (k1 z0)
  · refine QW.aload_n dMo_value_47 rfl rfl ?_
    refine MW.geti hX dMo_value_48 fMo_135 rfl rfl ?_
    refine QW.iconst (v := 3) dMo_value_51 (by decide) ?_
    refine QW.icmp_eq (tgt := 57) dMo_value_52 (by decide) (fun z1 => ?_) (fun z1 => ?_)
    · refine QW.sipush (v := 10000) dMo_value_57 (by decide) ?_
      refine QW.sipush (v := 1000) dMo_value_60 (by decide) ?_
      refine QW.iload_n dMo_value_63 rfl rfl ?_
      refine QW.imul dMo_value_64 ?_
      refine QW.iadd dMo_value_65 ?_
      refine QW.aload_n dMo_value_66 rfl rfl ?_
      refine MW.geti hX dMo_value_67 fMo_145 rfl rfl ?_
      refine QW.iadd dMo_value_70 ?_
      refine QW.istore_n (ls' := [.val (.ref 193), .val (.int a1), .val (.int ((10000 + (1000 * a1)) + (mem 193 12)))]) dMo_value_71 rfl rfl ?_
      refine QW.aload_n dMo_value_72 rfl rfl ?_
      exact MW.calV (as := []) (rest := []) hX dMo_value_73 eMo_next lMo_154 iMo_next vMo_next rfl rfl rfl rfl rfl rfl (Nat.le_of_ble_eq_true rfl) rfl (k2 z0 z1)
    · refine QW.iconst (v := (-1)) dMo_value_55 (by decide) ?_
      exact QW.iret dMo_value_56 rfl rfl (k3 z0 z1)
theorem bMo_value_76 {a1 : Int32} {a2 : Int32} (hX : X.length = 13) (k1 : P (.inl (some (.int a2)), (hpo X mem sw o e))) : QW d mMo_value 76 (lMo_value_76 a1 a2) [] (hpo X mem sw o e) P := by
  show QW d mMo_value 76 [.val (.ref 193), .val (.int a1), .val (.int a2)] [] (hpo X mem sw o e) P
  refine QW.iload_n dMo_value_76 rfl rfl ?_
  exact QW.iret dMo_value_77 rfl rfl k1
theorem bMo_value_78 (hX : X.length = 13) (k1 : QW d mMo_passes 0 (qen 3 [.ref 193, .int 45]) [] (hpo X mem sw o e) (qcl d mMo_value 81 84 lMo_value_84 [] P)) : QW (d + 1) mMo_value 78 (lMo_value_78) [] (hpo X mem sw o e) P := by
  show QW (d + 1) mMo_value 78 [.val (.ref 193), .unset, .unset] [] (hpo X mem sw o e) P
  refine QW.aload_n dMo_value_78 rfl rfl ?_
  refine QW.bipush (v := 45) dMo_value_79 (by decide) ?_
  exact MW.calV (as := [.int 45]) (rest := []) hX dMo_value_81 eMo_passes lMo_157 iMo_passes vMo_passes rfl rfl rfl rfl rfl rfl (Nat.le_of_ble_eq_true rfl) rfl k1
theorem bMo_value_84 {s0 : Int32} (hX : X.length = 13) (k1 : ((mem 193 9) = 3) → (s0 = 0) → QW d mMo_value 114 (lMo_value_114 s0) [.int (mem 193 12), .int 2000] (hpo X mem sw o e) P) (k2 : ((mem 193 9) = 3) → (¬ s0 = 0) → QW d mMo_value 114 (lMo_value_114 s0) [.int (-(mem 193 12)), .int 2000] (hpo X mem sw o e) P) (k3 : (¬ (mem 193 9) = 3) → P (.inl (some (.int (-1))), (hpo X mem sw o e))) : QW d mMo_value 84 (lMo_value_84) [.int s0] (hpo X mem sw o e) P := by
  show QW d mMo_value 84 [.val (.ref 193), .unset, .unset] [.int s0] (hpo X mem sw o e) P
  refine QW.istore_n (ls' := [.val (.ref 193), .val (.int s0), .unset]) dMo_value_84 rfl rfl ?_
  refine QW.aload_n dMo_value_85 rfl rfl ?_
  refine MW.geti hX dMo_value_86 fMo_135 rfl rfl ?_
  refine QW.iconst (v := 3) dMo_value_89 (by decide) ?_
  refine QW.icmp_eq (tgt := 95) dMo_value_90 (by decide) (fun z0 => ?_) (fun z0 => ?_)
  · refine QW.sipush (v := 2000) dMo_value_95 (by decide) ?_
    refine QW.iload_n dMo_value_98 rfl rfl ?_
    refine QW.if_eq (tgt := 110) dMo_value_99 (by decide) (fun z1 => ?_) (fun z1 => ?_)
    · refine QW.aload_n dMo_value_110 rfl rfl ?_
      refine MW.geti hX dMo_value_111 fMo_145 rfl rfl ?_
      exact (k1 z0 z1)
    · refine QW.aload_n dMo_value_102 rfl rfl ?_
      refine MW.geti hX dMo_value_103 fMo_145 rfl rfl ?_
      refine QW.ineg dMo_value_106 ?_
      refine QW.goto (tgt := 114) dMo_value_107 (by decide) ?_
      exact (k2 z0 z1)
  · refine QW.iconst (v := (-1)) dMo_value_93 (by decide) ?_
    exact QW.iret dMo_value_94 rfl rfl (k3 z0)
theorem bMo_value_114 {a1 : Int32} {s1 : Int32} {s0 : Int32} (hX : X.length = 13) (k1 : QW d mMo_next 0 (qen 2 [.ref 193]) [] (hpo X mem sw o e) (qcl d mMo_value 117 120 (lMo_value_120 a1 (s0 + s1)) [] P)) : QW (d + 1) mMo_value 114 (lMo_value_114 a1) [.int s1, .int s0] (hpo X mem sw o e) P := by
  show QW (d + 1) mMo_value 114 [.val (.ref 193), .val (.int a1), .unset] [.int s1, .int s0] (hpo X mem sw o e) P
  refine QW.iadd dMo_value_114 ?_
  refine QW.istore_n (ls' := [.val (.ref 193), .val (.int a1), .val (.int (s0 + s1))]) dMo_value_115 rfl rfl ?_
  refine QW.aload_n dMo_value_116 rfl rfl ?_
  exact MW.calV (as := []) (rest := []) hX dMo_value_117 eMo_next lMo_154 iMo_next vMo_next rfl rfl rfl rfl rfl rfl (Nat.le_of_ble_eq_true rfl) rfl k1
theorem bMo_value_120 {a1 : Int32} {a2 : Int32} (hX : X.length = 13) (k1 : P (.inl (some (.int a2)), (hpo X mem sw o e))) : QW d mMo_value 120 (lMo_value_120 a1 a2) [] (hpo X mem sw o e) P := by
  show QW d mMo_value 120 [.val (.ref 193), .val (.int a1), .val (.int a2)] [] (hpo X mem sw o e) P
  refine QW.iload_n dMo_value_120 rfl rfl ?_
  exact QW.iret dMo_value_121 rfl rfl k1
theorem dMo_readOutputs_0 : decode mMo_readOutputs.2.1 0 = .ok (.aload_n 0, 1) := by decide +kernel
theorem dMo_readOutputs_1 : decode mMo_readOutputs.2.1 1 = .ok (.getfield 40, 3) := by decide +kernel
theorem dMo_readOutputs_4 : decode mMo_readOutputs.2.1 4 = .ok (.iload_n 1, 1) := by decide +kernel
theorem dMo_readOutputs_5 : decode mMo_readOutputs.2.1 5 = .ok (.iconst 0, 1) := by decide +kernel
theorem dMo_readOutputs_6 : decode mMo_readOutputs.2.1 6 = .ok (.iastore, 1) := by decide +kernel
theorem dMo_readOutputs_7 : decode mMo_readOutputs.2.1 7 = .ok (.iconst 1, 1) := by decide +kernel
theorem dMo_readOutputs_8 : decode mMo_readOutputs.2.1 8 = .ok (.istore_n 2, 1) := by decide +kernel
theorem dMo_readOutputs_9 : decode mMo_readOutputs.2.1 9 = .ok (.iload_n 2, 1) := by decide +kernel
theorem dMo_readOutputs_10 : decode mMo_readOutputs.2.1 10 = .ok (.ifCond .eq 68, 3) := by decide +kernel
theorem dMo_readOutputs_13 : decode mMo_readOutputs.2.1 13 = .ok (.aload_n 0, 1) := by decide +kernel
theorem dMo_readOutputs_14 : decode mMo_readOutputs.2.1 14 = .ok (.invokevirtual 160, 3) := by decide +kernel
theorem dMo_readOutputs_17 : decode mMo_readOutputs.2.1 17 = .ok (.istore_n 3, 1) := by decide +kernel
theorem dMo_readOutputs_18 : decode mMo_readOutputs.2.1 18 = .ok (.iload_n 3, 1) := by decide +kernel
theorem dMo_readOutputs_19 : decode mMo_readOutputs.2.1 19 = .ok (.ifCond .ge 5, 3) := by decide +kernel
theorem dMo_readOutputs_22 : decode mMo_readOutputs.2.1 22 = .ok (.iconst 0, 1) := by decide +kernel
theorem dMo_readOutputs_23 : decode mMo_readOutputs.2.1 23 = .ok (.ireturn, 1) := by decide +kernel
theorem dMo_readOutputs_24 : decode mMo_readOutputs.2.1 24 = .ok (.aload_n 0, 1) := by decide +kernel
theorem dMo_readOutputs_25 : decode mMo_readOutputs.2.1 25 = .ok (.getfield 43, 3) := by decide +kernel
theorem dMo_readOutputs_28 : decode mMo_readOutputs.2.1 28 = .ok (.iconst 3, 1) := by decide +kernel
theorem dMo_readOutputs_29 : decode mMo_readOutputs.2.1 29 = .ok (.iload_n 1, 1) := by decide +kernel
theorem dMo_readOutputs_30 : decode mMo_readOutputs.2.1 30 = .ok (.imul, 1) := by decide +kernel
theorem dMo_readOutputs_31 : decode mMo_readOutputs.2.1 31 = .ok (.aload_n 0, 1) := by decide +kernel
theorem dMo_readOutputs_32 : decode mMo_readOutputs.2.1 32 = .ok (.getfield 40, 3) := by decide +kernel
theorem dMo_readOutputs_35 : decode mMo_readOutputs.2.1 35 = .ok (.iload_n 1, 1) := by decide +kernel
theorem dMo_readOutputs_36 : decode mMo_readOutputs.2.1 36 = .ok (.iaload, 1) := by decide +kernel
theorem dMo_readOutputs_37 : decode mMo_readOutputs.2.1 37 = .ok (.iadd, 1) := by decide +kernel
theorem dMo_readOutputs_38 : decode mMo_readOutputs.2.1 38 = .ok (.iload_n 3, 1) := by decide +kernel
theorem dMo_readOutputs_39 : decode mMo_readOutputs.2.1 39 = .ok (.iastore, 1) := by decide +kernel
theorem dMo_readOutputs_40 : decode mMo_readOutputs.2.1 40 = .ok (.aload_n 0, 1) := by decide +kernel
theorem dMo_readOutputs_41 : decode mMo_readOutputs.2.1 41 = .ok (.getfield 40, 3) := by decide +kernel
theorem dMo_readOutputs_44 : decode mMo_readOutputs.2.1 44 = .ok (.iload_n 1, 1) := by decide +kernel
theorem dMo_readOutputs_45 : decode mMo_readOutputs.2.1 45 = .ok (.dup2, 1) := by decide +kernel
theorem dMo_readOutputs_46 : decode mMo_readOutputs.2.1 46 = .ok (.iaload, 1) := by decide +kernel
theorem dMo_readOutputs_47 : decode mMo_readOutputs.2.1 47 = .ok (.iconst 1, 1) := by decide +kernel
theorem dMo_readOutputs_48 : decode mMo_readOutputs.2.1 48 = .ok (.iadd, 1) := by decide +kernel
theorem dMo_readOutputs_49 : decode mMo_readOutputs.2.1 49 = .ok (.iastore, 1) := by decide +kernel
theorem dMo_readOutputs_50 : decode mMo_readOutputs.2.1 50 = .ok (.aload_n 0, 1) := by decide +kernel
theorem dMo_readOutputs_51 : decode mMo_readOutputs.2.1 51 = .ok (.getfield 40, 3) := by decide +kernel
theorem dMo_readOutputs_54 : decode mMo_readOutputs.2.1 54 = .ok (.iload_n 1, 1) := by decide +kernel
theorem dMo_readOutputs_55 : decode mMo_readOutputs.2.1 55 = .ok (.iaload, 1) := by decide +kernel
theorem dMo_readOutputs_56 : decode mMo_readOutputs.2.1 56 = .ok (.iconst 3, 1) := by decide +kernel
theorem dMo_readOutputs_57 : decode mMo_readOutputs.2.1 57 = .ok (.if_icmp .ge 16, 3) := by decide +kernel
theorem dMo_readOutputs_60 : decode mMo_readOutputs.2.1 60 = .ok (.aload_n 0, 1) := by decide +kernel
theorem dMo_readOutputs_61 : decode mMo_readOutputs.2.1 61 = .ok (.bipush 44, 2) := by decide +kernel
theorem dMo_readOutputs_63 : decode mMo_readOutputs.2.1 63 = .ok (.invokevirtual 157, 3) := by decide +kernel
theorem dMo_readOutputs_66 : decode mMo_readOutputs.2.1 66 = .ok (.ifCond .eq 7, 3) := by decide +kernel
theorem dMo_readOutputs_69 : decode mMo_readOutputs.2.1 69 = .ok (.iconst 1, 1) := by decide +kernel
theorem dMo_readOutputs_70 : decode mMo_readOutputs.2.1 70 = .ok (.goto 4, 3) := by decide +kernel
theorem dMo_readOutputs_73 : decode mMo_readOutputs.2.1 73 = .ok (.iconst 0, 1) := by decide +kernel
theorem dMo_readOutputs_74 : decode mMo_readOutputs.2.1 74 = .ok (.istore_n 2, 1) := by decide +kernel
theorem dMo_readOutputs_75 : decode mMo_readOutputs.2.1 75 = .ok (.goto (-66), 3) := by decide +kernel
theorem dMo_readOutputs_78 : decode mMo_readOutputs.2.1 78 = .ok (.iconst 1, 1) := by decide +kernel
theorem dMo_readOutputs_79 : decode mMo_readOutputs.2.1 79 = .ok (.ireturn, 1) := by decide +kernel
def lMo_readOutputs_9 (a1 : Int32) (a2 : Int32) (w3 : Slot) : List Slot := [.val (.ref 193), .val (.int a1), .val (.int a2), w3]
def lMo_readOutputs_17 (a1 : Int32) (a2 : Int32) (w3 : Slot) : List Slot := [.val (.ref 193), .val (.int a1), .val (.int a2), w3]
def lMo_readOutputs_66 (a1 : Int32) (a2 : Int32) (a3 : Int32) : List Slot := [.val (.ref 193), .val (.int a1), .val (.int a2), .val (.int a3)]
def lMo_readOutputs_73 (a1 : Int32) (a2 : Int32) (a3 : Int32) : List Slot := [.val (.ref 193), .val (.int a1), .val (.int a2), .val (.int a3)]
def lMo_readOutputs_74 (a1 : Int32) (a2 : Int32) (a3 : Int32) : List Slot := [.val (.ref 193), .val (.int a1), .val (.int a2), .val (.int a3)]
theorem bMo_readOutputs_0 {a1 : Int32} (hX : X.length = 13) (h1 : inx a1 15) (k2 : QW d mMo_readOutputs 9 (lMo_readOutputs_9 a1 1 .unset) [] (hpo X (mup mem 202 (Int32.toNatClampNeg a1) 0) sw o e) P) : QW d mMo_readOutputs 0 (qen 4 [.ref 193, .int a1]) [] (hpo X mem sw o e) P := by
  show QW d mMo_readOutputs 0 [.val (.ref 193), .val (.int a1), .unset, .unset] [] (hpo X mem sw o e) P
  refine QW.aload_n dMo_readOutputs_0 rfl rfl ?_
  refine MW.getr (r' := 202) hX dMo_readOutputs_1 fMo_40 rfl rfl (by cases sw <;> rfl) ?_
  refine QW.iload_n dMo_readOutputs_4 rfl rfl ?_
  refine QW.iconst (v := 0) dMo_readOutputs_5 (by decide) ?_
  refine MW.iast hX dMo_readOutputs_6 rfl h1.1 (rep_get h1.2) ?_
  refine QW.iconst (v := 1) dMo_readOutputs_7 (by decide) ?_
  refine QW.istore_n (ls' := [.val (.ref 193), .val (.int a1), .val (.int 1), .unset]) dMo_readOutputs_8 rfl rfl ?_
  exact k2
theorem bMo_readOutputs_9 {a1 : Int32} {a2 : Int32} {w3 : Slot} (hX : X.length = 13) (hw3 : qfr w3) (k1 : (a2 = 0) → P (.inl (some (.int 1)), (hpo X mem sw o e))) (k2 : (¬ a2 = 0) → QW d mMo_value 0 (qen 3 [.ref 193]) [] (hpo X mem sw o e) (qcl d mMo_readOutputs 14 17 (lMo_readOutputs_17 a1 a2 w3) [] P)) : QW (d + 1) mMo_readOutputs 9 (lMo_readOutputs_9 a1 a2 w3) [] (hpo X mem sw o e) P := by
  show QW (d + 1) mMo_readOutputs 9 [.val (.ref 193), .val (.int a1), .val (.int a2), w3] [] (hpo X mem sw o e) P
  refine QW.iload_n dMo_readOutputs_9 rfl rfl ?_
  refine QW.if_eq (tgt := 78) dMo_readOutputs_10 (by decide) (fun z0 => ?_) (fun z0 => ?_)
  · refine QW.iconst (v := 1) dMo_readOutputs_78 (by decide) ?_
    exact QW.iret dMo_readOutputs_79 rfl rfl (k1 z0)
  · refine QW.aload_n dMo_readOutputs_13 rfl rfl ?_
    exact MW.calV (as := []) (rest := []) hX dMo_readOutputs_14 eMo_value lMo_160 iMo_value vMo_value rfl rfl rfl rfl rfl rfl (Nat.le_of_ble_eq_true rfl) rfl (k2 z0)
theorem bMo_readOutputs_17 {a1 : Int32} {a2 : Int32} {w3 : Slot} {s0 : Int32} (hX : X.length = 13) (hw3 : qfr w3) (h1 : (0 ≤ s0) → inx a1 15) (h2 : (0 ≤ s0) → inx ((3 * a1) + (mem 202 (Int32.toNatClampNeg a1))) 45) (h3 : (0 ≤ s0) → inx a1 15) (h4 : (0 ≤ s0) → inx a1 15) (h5 : (0 ≤ s0) → inx a1 15) (k6 : (0 ≤ s0) → (3 ≤ ((mup (mup mem 203 (Int32.toNatClampNeg ((3 * a1) + (mem 202 (Int32.toNatClampNeg a1)))) s0) 202 (Int32.toNatClampNeg a1) (((mup mem 203 (Int32.toNatClampNeg ((3 * a1) + (mem 202 (Int32.toNatClampNeg a1)))) s0) 202 (Int32.toNatClampNeg a1)) + 1)) 202 (Int32.toNatClampNeg a1))) → QW (d + 1) mMo_readOutputs 73 (lMo_readOutputs_73 a1 a2 s0) [] (hpo X (mup (mup mem 203 (Int32.toNatClampNeg ((3 * a1) + (mem 202 (Int32.toNatClampNeg a1)))) s0) 202 (Int32.toNatClampNeg a1) (((mup mem 203 (Int32.toNatClampNeg ((3 * a1) + (mem 202 (Int32.toNatClampNeg a1)))) s0) 202 (Int32.toNatClampNeg a1)) + 1)) sw o e) P) (k7 : (0 ≤ s0) → (¬ 3 ≤ ((mup (mup mem 203 (Int32.toNatClampNeg ((3 * a1) + (mem 202 (Int32.toNatClampNeg a1)))) s0) 202 (Int32.toNatClampNeg a1) (((mup mem 203 (Int32.toNatClampNeg ((3 * a1) + (mem 202 (Int32.toNatClampNeg a1)))) s0) 202 (Int32.toNatClampNeg a1)) + 1)) 202 (Int32.toNatClampNeg a1))) → QW d mMo_passes 0 (qen 3 [.ref 193, .int 44]) [] (hpo X (mup (mup mem 203 (Int32.toNatClampNeg ((3 * a1) + (mem 202 (Int32.toNatClampNeg a1)))) s0) 202 (Int32.toNatClampNeg a1) (((mup mem 203 (Int32.toNatClampNeg ((3 * a1) + (mem 202 (Int32.toNatClampNeg a1)))) s0) 202 (Int32.toNatClampNeg a1)) + 1)) sw o e) (qcl d mMo_readOutputs 63 66 (lMo_readOutputs_66 a1 a2 s0) [] P)) (k8 : (¬ 0 ≤ s0) → P (.inl (some (.int 0)), (hpo X mem sw o e))) : QW (d + 1) mMo_readOutputs 17 (lMo_readOutputs_17 a1 a2 w3) [.int s0] (hpo X mem sw o e) P := by
  show QW (d + 1) mMo_readOutputs 17 [.val (.ref 193), .val (.int a1), .val (.int a2), w3] [.int s0] (hpo X mem sw o e) P
  refine QW.istore_n (ls' := [.val (.ref 193), .val (.int a1), .val (.int a2), .val (.int s0)]) dMo_readOutputs_17 rfl (by rcases hw3 with z | ⟨_, z⟩ | ⟨_, z⟩ <;> subst z <;> rfl) ?_
  refine QW.iload_n dMo_readOutputs_18 rfl rfl ?_
  refine QW.if_ge (tgt := 24) dMo_readOutputs_19 (by decide) (fun z0 => ?_) (fun z0 => ?_)
  · refine QW.aload_n dMo_readOutputs_24 rfl rfl ?_
    refine MW.getr (r' := 203) hX dMo_readOutputs_25 fMo_43 rfl rfl (by cases sw <;> rfl) ?_
    refine QW.iconst (v := 3) dMo_readOutputs_28 (by decide) ?_
    refine QW.iload_n dMo_readOutputs_29 rfl rfl ?_
    refine QW.imul dMo_readOutputs_30 ?_
    refine QW.aload_n dMo_readOutputs_31 rfl rfl ?_
    refine MW.getr (r' := 202) hX dMo_readOutputs_32 fMo_40 rfl rfl (by cases sw <;> rfl) ?_
    refine QW.iload_n dMo_readOutputs_35 rfl rfl ?_
    refine MW.iald hX dMo_readOutputs_36 rfl (h1 z0).1 (rep_get (h1 z0).2) ?_
    refine QW.iadd dMo_readOutputs_37 ?_
    refine QW.iload_n dMo_readOutputs_38 rfl rfl ?_
    refine MW.iast hX dMo_readOutputs_39 rfl (h2 z0).1 (rep_get (h2 z0).2) ?_
    refine QW.aload_n dMo_readOutputs_40 rfl rfl ?_
    refine MW.getr (r' := 202) hX dMo_readOutputs_41 fMo_40 rfl rfl (by cases sw <;> rfl) ?_
    refine QW.iload_n dMo_readOutputs_44 rfl rfl ?_
    refine QW.dup2 dMo_readOutputs_45 rfl rfl ?_
    refine MW.iald hX dMo_readOutputs_46 rfl (h3 z0).1 (rep_get (h3 z0).2) ?_
    refine QW.iconst (v := 1) dMo_readOutputs_47 (by decide) ?_
    refine QW.iadd dMo_readOutputs_48 ?_
    refine MW.iast hX dMo_readOutputs_49 rfl (h4 z0).1 (rep_get (h4 z0).2) ?_
    refine QW.aload_n dMo_readOutputs_50 rfl rfl ?_
    refine MW.getr (r' := 202) hX dMo_readOutputs_51 fMo_40 rfl rfl (by cases sw <;> rfl) ?_
    refine QW.iload_n dMo_readOutputs_54 rfl rfl ?_
    refine MW.iald hX dMo_readOutputs_55 rfl (h5 z0).1 (rep_get (h5 z0).2) ?_
    refine QW.iconst (v := 3) dMo_readOutputs_56 (by decide) ?_
    refine QW.icmp_ge (tgt := 73) dMo_readOutputs_57 (by decide) (fun z1 => ?_) (fun z1 => ?_)
    · exact (k6 z0 z1)
    · refine QW.aload_n dMo_readOutputs_60 rfl rfl ?_
      refine QW.bipush (v := 44) dMo_readOutputs_61 (by decide) ?_
      exact MW.calV (as := [.int 44]) (rest := []) hX dMo_readOutputs_63 eMo_passes lMo_157 iMo_passes vMo_passes rfl rfl rfl rfl rfl rfl (Nat.le_of_ble_eq_true rfl) rfl (k7 z0 z1)
  · refine QW.iconst (v := 0) dMo_readOutputs_22 (by decide) ?_
    exact QW.iret dMo_readOutputs_23 rfl rfl (k8 z0)
theorem bMo_readOutputs_66 {a1 : Int32} {a2 : Int32} {a3 : Int32} {s0 : Int32} (hX : X.length = 13) (k1 : (s0 = 0) → QW d mMo_readOutputs 73 (lMo_readOutputs_73 a1 a2 a3) [] (hpo X mem sw o e) P) (k2 : (¬ s0 = 0) → QW d mMo_readOutputs 74 (lMo_readOutputs_74 a1 a2 a3) [.int 1] (hpo X mem sw o e) P) : QW d mMo_readOutputs 66 (lMo_readOutputs_66 a1 a2 a3) [.int s0] (hpo X mem sw o e) P := by
  show QW d mMo_readOutputs 66 [.val (.ref 193), .val (.int a1), .val (.int a2), .val (.int a3)] [.int s0] (hpo X mem sw o e) P
  refine QW.if_eq (tgt := 73) dMo_readOutputs_66 (by decide) (fun z0 => ?_) (fun z0 => ?_)
  · exact (k1 z0)
  · refine QW.iconst (v := 1) dMo_readOutputs_69 (by decide) ?_
    refine QW.goto (tgt := 74) dMo_readOutputs_70 (by decide) ?_
    exact (k2 z0)
theorem bMo_readOutputs_73 {a1 : Int32} {a2 : Int32} {a3 : Int32} (hX : X.length = 13) (k1 : QW d mMo_readOutputs 74 (lMo_readOutputs_74 a1 a2 a3) [.int 0] (hpo X mem sw o e) P) : QW d mMo_readOutputs 73 (lMo_readOutputs_73 a1 a2 a3) [] (hpo X mem sw o e) P := by
  show QW d mMo_readOutputs 73 [.val (.ref 193), .val (.int a1), .val (.int a2), .val (.int a3)] [] (hpo X mem sw o e) P
  refine QW.iconst (v := 0) dMo_readOutputs_73 (by decide) ?_
  exact k1
theorem bMo_readOutputs_74 {a1 : Int32} {a2 : Int32} {a3 : Int32} {s0 : Int32} (hX : X.length = 13) (k1 : QW d mMo_readOutputs 9 (lMo_readOutputs_9 a1 s0 (.val (.int a3))) [] (hpo X mem sw o e) P) : QW d mMo_readOutputs 74 (lMo_readOutputs_74 a1 a2 a3) [.int s0] (hpo X mem sw o e) P := by
  show QW d mMo_readOutputs 74 [.val (.ref 193), .val (.int a1), .val (.int a2), .val (.int a3)] [.int s0] (hpo X mem sw o e) P
  refine QW.istore_n (ls' := [.val (.ref 193), .val (.int a1), .val (.int s0), .val (.int a3)]) dMo_readOutputs_74 rfl rfl ?_
  refine QW.goto (tgt := 9) dMo_readOutputs_75 (by decide) ?_
  exact k1
theorem dMo_readSource_0 : decode mMo_readSource.2.1 0 = .ok (.aload_n 0, 1) := by decide +kernel
theorem dMo_readSource_1 : decode mMo_readSource.2.1 1 = .ok (.getfield 135, 3) := by decide +kernel
theorem dMo_readSource_4 : decode mMo_readSource.2.1 4 = .ok (.iconst 2, 1) := by decide +kernel
theorem dMo_readSource_5 : decode mMo_readSource.2.1 5 = .ok (.if_icmp .ne 18, 3) := by decide +kernel
theorem dMo_readSource_8 : decode mMo_readSource.2.1 8 = .ok (.aload_n 0, 1) := by decide +kernel
theorem dMo_readSource_9 : decode mMo_readSource.2.1 9 = .ok (.getfield 23, 3) := by decide +kernel
theorem dMo_readSource_12 : decode mMo_readSource.2.1 12 = .ok (.aload_n 0, 1) := by decide +kernel
theorem dMo_readSource_13 : decode mMo_readSource.2.1 13 = .ok (.getfield 128, 3) := by decide +kernel
theorem dMo_readSource_16 : decode mMo_readSource.2.1 16 = .ok (.caload, 1) := by decide +kernel
theorem dMo_readSource_17 : decode mMo_readSource.2.1 17 = .ok (.bipush 65, 2) := by decide +kernel
theorem dMo_readSource_19 : decode mMo_readSource.2.1 19 = .ok (.isub, 1) := by decide +kernel
theorem dMo_readSource_20 : decode mMo_readSource.2.1 20 = .ok (.goto 7, 3) := by decide +kernel
theorem dMo_readSource_23 : decode mMo_readSource.2.1 23 = .ok (.aload_n 0, 1) := by decide +kernel
theorem dMo_readSource_24 : decode mMo_readSource.2.1 24 = .ok (.getfield 109, 3) := by decide +kernel
theorem dMo_readSource_27 : decode mMo_readSource.2.1 27 = .ok (.istore_n 2, 1) := by decide +kernel
theorem dMo_readSource_28 : decode mMo_readSource.2.1 28 = .ok (.iload_n 2, 1) := by decide +kernel
theorem dMo_readSource_29 : decode mMo_readSource.2.1 29 = .ok (.aload_n 0, 1) := by decide +kernel
theorem dMo_readSource_30 : decode mMo_readSource.2.1 30 = .ok (.getfield 109, 3) := by decide +kernel
theorem dMo_readSource_33 : decode mMo_readSource.2.1 33 = .ok (.if_icmp .lt 5, 3) := by decide +kernel
theorem dMo_readSource_36 : decode mMo_readSource.2.1 36 = .ok (.iconst 0, 1) := by decide +kernel
theorem dMo_readSource_37 : decode mMo_readSource.2.1 37 = .ok (.ireturn, 1) := by decide +kernel
theorem dMo_readSource_38 : decode mMo_readSource.2.1 38 = .ok (.aload_n 0, 1) := by decide +kernel
theorem dMo_readSource_39 : decode mMo_readSource.2.1 39 = .ok (.invokevirtual 154, 3) := by decide +kernel
theorem dMo_readSource_42 : decode mMo_readSource.2.1 42 = .ok (.aload_n 0, 1) := by decide +kernel
theorem dMo_readSource_43 : decode mMo_readSource.2.1 43 = .ok (.getfield 135, 3) := by decide +kernel
theorem dMo_readSource_46 : decode mMo_readSource.2.1 46 = .ok (.iconst 1, 1) := by decide +kernel
theorem dMo_readSource_47 : decode mMo_readSource.2.1 47 = .ok (.if_icmp .ne 20, 3) := by decide +kernel
theorem dMo_readSource_50 : decode mMo_readSource.2.1 50 = .ok (.aload_n 0, 1) := by decide +kernel
theorem dMo_readSource_51 : decode mMo_readSource.2.1 51 = .ok (.getfield 125, 3) := by decide +kernel
theorem dMo_readSource_54 : decode mMo_readSource.2.1 54 = .ok (.aload_n 0, 1) := by decide +kernel
theorem dMo_readSource_55 : decode mMo_readSource.2.1 55 = .ok (.getfield 128, 3) := by decide +kernel
theorem dMo_readSource_58 : decode mMo_readSource.2.1 58 = .ok (.isub, 1) := by decide +kernel
theorem dMo_readSource_59 : decode mMo_readSource.2.1 59 = .ok (.iconst 1, 1) := by decide +kernel
theorem dMo_readSource_60 : decode mMo_readSource.2.1 60 = .ok (.if_icmp .ne 7, 3) := by decide +kernel
theorem dMo_readSource_63 : decode mMo_readSource.2.1 63 = .ok (.iconst 1, 1) := by decide +kernel
theorem dMo_readSource_64 : decode mMo_readSource.2.1 64 = .ok (.goto 4, 3) := by decide +kernel
theorem dMo_readSource_67 : decode mMo_readSource.2.1 67 = .ok (.iconst 0, 1) := by decide +kernel
theorem dMo_readSource_68 : decode mMo_readSource.2.1 68 = .ok (.istore_n 3, 1) := by decide +kernel
theorem dMo_readSource_69 : decode mMo_readSource.2.1 69 = .ok (.iconst 0, 1) := by decide +kernel
theorem dMo_readSource_70 : decode mMo_readSource.2.1 70 = .ok (.istore 4, 2) := by decide +kernel
theorem dMo_readSource_72 : decode mMo_readSource.2.1 72 = .ok (.iload 4, 2) := by decide +kernel
theorem dMo_readSource_74 : decode mMo_readSource.2.1 74 = .ok (.aload_n 0, 1) := by decide +kernel
theorem dMo_readSource_75 : decode mMo_readSource.2.1 75 = .ok (.getfield 46, 3) := by decide +kernel
theorem dMo_readSource_78 : decode mMo_readSource.2.1 78 = .ok (.iload_n 1, 1) := by decide +kernel
theorem dMo_readSource_79 : decode mMo_readSource.2.1 79 = .ok (.iaload, 1) := by decide +kernel
theorem dMo_readSource_80 : decode mMo_readSource.2.1 80 = .ok (.if_icmp .ge 45, 3) := by decide +kernel
theorem dMo_readSource_83 : decode mMo_readSource.2.1 83 = .ok (.iload_n 3, 1) := by decide +kernel
theorem dMo_readSource_84 : decode mMo_readSource.2.1 84 = .ok (.ifCond .eq 33, 3) := by decide +kernel
theorem dMo_readSource_87 : decode mMo_readSource.2.1 87 = .ok (.aload_n 0, 1) := by decide +kernel
theorem dMo_readSource_88 : decode mMo_readSource.2.1 88 = .ok (.getfield 52, 3) := by decide +kernel
theorem dMo_readSource_91 : decode mMo_readSource.2.1 91 = .ok (.iconst 4, 1) := by decide +kernel
theorem dMo_readSource_92 : decode mMo_readSource.2.1 92 = .ok (.iload_n 1, 1) := by decide +kernel
theorem dMo_readSource_93 : decode mMo_readSource.2.1 93 = .ok (.imul, 1) := by decide +kernel
theorem dMo_readSource_94 : decode mMo_readSource.2.1 94 = .ok (.iload 4, 2) := by decide +kernel
theorem dMo_readSource_96 : decode mMo_readSource.2.1 96 = .ok (.iadd, 1) := by decide +kernel
theorem dMo_readSource_97 : decode mMo_readSource.2.1 97 = .ok (.iaload, 1) := by decide +kernel
theorem dMo_readSource_98 : decode mMo_readSource.2.1 98 = .ok (.aload_n 0, 1) := by decide +kernel
theorem dMo_readSource_99 : decode mMo_readSource.2.1 99 = .ok (.getfield 23, 3) := by decide +kernel
theorem dMo_readSource_102 : decode mMo_readSource.2.1 102 = .ok (.aload_n 0, 1) := by decide +kernel
theorem dMo_readSource_103 : decode mMo_readSource.2.1 103 = .ok (.getfield 128, 3) := by decide +kernel
theorem dMo_readSource_106 : decode mMo_readSource.2.1 106 = .ok (.caload, 1) := by decide +kernel
theorem dMo_readSource_107 : decode mMo_readSource.2.1 107 = .ok (.bipush 97, 2) := by decide +kernel
theorem dMo_readSource_109 : decode mMo_readSource.2.1 109 = .ok (.isub, 1) := by decide +kernel
theorem dMo_readSource_110 : decode mMo_readSource.2.1 110 = .ok (.if_icmp .eq 7, 3) := by decide +kernel
theorem dMo_readSource_113 : decode mMo_readSource.2.1 113 = .ok (.iconst 1, 1) := by decide +kernel
theorem dMo_readSource_114 : decode mMo_readSource.2.1 114 = .ok (.goto 4, 3) := by decide +kernel
theorem dMo_readSource_117 : decode mMo_readSource.2.1 117 = .ok (.iconst 0, 1) := by decide +kernel
theorem dMo_readSource_118 : decode mMo_readSource.2.1 118 = .ok (.istore_n 3, 1) := by decide +kernel
theorem dMo_readSource_119 : decode mMo_readSource.2.1 119 = .ok (.iinc 4 1, 3) := by decide +kernel
theorem dMo_readSource_122 : decode mMo_readSource.2.1 122 = .ok (.goto (-50), 3) := by decide +kernel
theorem dMo_readSource_125 : decode mMo_readSource.2.1 125 = .ok (.iload_n 3, 1) := by decide +kernel
theorem dMo_readSource_126 : decode mMo_readSource.2.1 126 = .ok (.ifCond .ne 5, 3) := by decide +kernel
theorem dMo_readSource_129 : decode mMo_readSource.2.1 129 = .ok (.iconst 0, 1) := by decide +kernel
theorem dMo_readSource_130 : decode mMo_readSource.2.1 130 = .ok (.ireturn, 1) := by decide +kernel
theorem dMo_readSource_131 : decode mMo_readSource.2.1 131 = .ok (.aload_n 0, 1) := by decide +kernel
theorem dMo_readSource_132 : decode mMo_readSource.2.1 132 = .ok (.getfield 49, 3) := by decide +kernel
theorem dMo_readSource_135 : decode mMo_readSource.2.1 135 = .ok (.iconst 4, 1) := by decide +kernel
theorem dMo_readSource_136 : decode mMo_readSource.2.1 136 = .ok (.iload_n 1, 1) := by decide +kernel
theorem dMo_readSource_137 : decode mMo_readSource.2.1 137 = .ok (.imul, 1) := by decide +kernel
theorem dMo_readSource_138 : decode mMo_readSource.2.1 138 = .ok (.aload_n 0, 1) := by decide +kernel
theorem dMo_readSource_139 : decode mMo_readSource.2.1 139 = .ok (.getfield 46, 3) := by decide +kernel
theorem dMo_readSource_142 : decode mMo_readSource.2.1 142 = .ok (.iload_n 1, 1) := by decide +kernel
theorem dMo_readSource_143 : decode mMo_readSource.2.1 143 = .ok (.iaload, 1) := by decide +kernel
theorem dMo_readSource_144 : decode mMo_readSource.2.1 144 = .ok (.iadd, 1) := by decide +kernel
theorem dMo_readSource_145 : decode mMo_readSource.2.1 145 = .ok (.iload_n 2, 1) := by decide +kernel
theorem dMo_readSource_146 : decode mMo_readSource.2.1 146 = .ok (.iastore, 1) := by decide +kernel
theorem dMo_readSource_147 : decode mMo_readSource.2.1 147 = .ok (.aload_n 0, 1) := by decide +kernel
theorem dMo_readSource_148 : decode mMo_readSource.2.1 148 = .ok (.getfield 52, 3) := by decide +kernel
theorem dMo_readSource_151 : decode mMo_readSource.2.1 151 = .ok (.iconst 4, 1) := by decide +kernel
theorem dMo_readSource_152 : decode mMo_readSource.2.1 152 = .ok (.iload_n 1, 1) := by decide +kernel
theorem dMo_readSource_153 : decode mMo_readSource.2.1 153 = .ok (.imul, 1) := by decide +kernel
theorem dMo_readSource_154 : decode mMo_readSource.2.1 154 = .ok (.aload_n 0, 1) := by decide +kernel
theorem dMo_readSource_155 : decode mMo_readSource.2.1 155 = .ok (.getfield 46, 3) := by decide +kernel
theorem dMo_readSource_158 : decode mMo_readSource.2.1 158 = .ok (.iload_n 1, 1) := by decide +kernel
theorem dMo_readSource_159 : decode mMo_readSource.2.1 159 = .ok (.iaload, 1) := by decide +kernel
theorem dMo_readSource_160 : decode mMo_readSource.2.1 160 = .ok (.iadd, 1) := by decide +kernel
theorem dMo_readSource_161 : decode mMo_readSource.2.1 161 = .ok (.aload_n 0, 1) := by decide +kernel
theorem dMo_readSource_162 : decode mMo_readSource.2.1 162 = .ok (.getfield 23, 3) := by decide +kernel
theorem dMo_readSource_165 : decode mMo_readSource.2.1 165 = .ok (.aload_n 0, 1) := by decide +kernel
theorem dMo_readSource_166 : decode mMo_readSource.2.1 166 = .ok (.getfield 128, 3) := by decide +kernel
theorem dMo_readSource_169 : decode mMo_readSource.2.1 169 = .ok (.caload, 1) := by decide +kernel
theorem dMo_readSource_170 : decode mMo_readSource.2.1 170 = .ok (.bipush 97, 2) := by decide +kernel
theorem dMo_readSource_172 : decode mMo_readSource.2.1 172 = .ok (.isub, 1) := by decide +kernel
theorem dMo_readSource_173 : decode mMo_readSource.2.1 173 = .ok (.iastore, 1) := by decide +kernel
theorem dMo_readSource_174 : decode mMo_readSource.2.1 174 = .ok (.aload_n 0, 1) := by decide +kernel
theorem dMo_readSource_175 : decode mMo_readSource.2.1 175 = .ok (.getfield 46, 3) := by decide +kernel
theorem dMo_readSource_178 : decode mMo_readSource.2.1 178 = .ok (.iload_n 1, 1) := by decide +kernel
theorem dMo_readSource_179 : decode mMo_readSource.2.1 179 = .ok (.dup2, 1) := by decide +kernel
theorem dMo_readSource_180 : decode mMo_readSource.2.1 180 = .ok (.iaload, 1) := by decide +kernel
theorem dMo_readSource_181 : decode mMo_readSource.2.1 181 = .ok (.iconst 1, 1) := by decide +kernel
theorem dMo_readSource_182 : decode mMo_readSource.2.1 182 = .ok (.iadd, 1) := by decide +kernel
theorem dMo_readSource_183 : decode mMo_readSource.2.1 183 = .ok (.iastore, 1) := by decide +kernel
theorem dMo_readSource_184 : decode mMo_readSource.2.1 184 = .ok (.aload_n 0, 1) := by decide +kernel
theorem dMo_readSource_185 : decode mMo_readSource.2.1 185 = .ok (.invokevirtual 154, 3) := by decide +kernel
theorem dMo_readSource_188 : decode mMo_readSource.2.1 188 = .ok (.iconst 1, 1) := by decide +kernel
theorem dMo_readSource_189 : decode mMo_readSource.2.1 189 = .ok (.ireturn, 1) := by decide +kernel
def lMo_readSource_27 (a1 : Int32) : List Slot := [.val (.ref 193), .val (.int a1), .unset, .unset, .unset]
def lMo_readSource_42 (a1 : Int32) (a2 : Int32) : List Slot := [.val (.ref 193), .val (.int a1), .val (.int a2), .unset, .unset]
def lMo_readSource_67 (a1 : Int32) (a2 : Int32) : List Slot := [.val (.ref 193), .val (.int a1), .val (.int a2), .unset, .unset]
def lMo_readSource_68 (a1 : Int32) (a2 : Int32) : List Slot := [.val (.ref 193), .val (.int a1), .val (.int a2), .unset, .unset]
def lMo_readSource_72 (a1 : Int32) (a2 : Int32) (a3 : Int32) (a4 : Int32) : List Slot := [.val (.ref 193), .val (.int a1), .val (.int a2), .val (.int a3), .val (.int a4)]
def lMo_readSource_117 (a1 : Int32) (a2 : Int32) (a3 : Int32) (a4 : Int32) : List Slot := [.val (.ref 193), .val (.int a1), .val (.int a2), .val (.int a3), .val (.int a4)]
def lMo_readSource_118 (a1 : Int32) (a2 : Int32) (a3 : Int32) (a4 : Int32) : List Slot := [.val (.ref 193), .val (.int a1), .val (.int a2), .val (.int a3), .val (.int a4)]
def lMo_readSource_188 (a1 : Int32) (a2 : Int32) (a3 : Int32) (a4 : Int32) : List Slot := [.val (.ref 193), .val (.int a1), .val (.int a2), .val (.int a3), .val (.int a4)]
theorem bMo_readSource_0 {a1 : Int32} (hX : X.length = 13) (k1 : (¬ (mem 193 9) = 2) → QW d mMo_readSource 27 (lMo_readSource_27 a1) [.int (mem 193 1)] (hpo X mem sw o e) P) (h2 : ((mem 193 9) = 2) → inx (mem 193 10) 200) (k3 : ((mem 193 9) = 2) → QW d mMo_readSource 27 (lMo_readSource_27 a1) [.int ((mem 198 (Int32.toNatClampNeg (mem 193 10))) - 65)] (hpo X mem sw o e) P) : QW d mMo_readSource 0 (qen 5 [.ref 193, .int a1]) [] (hpo X mem sw o e) P := by
  show QW d mMo_readSource 0 [.val (.ref 193), .val (.int a1), .unset, .unset, .unset] [] (hpo X mem sw o e) P
  refine QW.aload_n dMo_readSource_0 rfl rfl ?_
  refine MW.geti hX dMo_readSource_1 fMo_135 rfl rfl ?_
  refine QW.iconst (v := 2) dMo_readSource_4 (by decide) ?_
  refine QW.icmp_ne (tgt := 23) dMo_readSource_5 (by decide) (fun z0 => ?_) (fun z0 => ?_)
  · refine QW.aload_n dMo_readSource_23 rfl rfl ?_
    refine MW.geti hX dMo_readSource_24 fMo_109 rfl rfl ?_
    exact (k1 z0)
  · refine QW.aload_n dMo_readSource_8 rfl rfl ?_
    refine MW.getr (r' := 198) hX dMo_readSource_9 fMo_23 rfl rfl (by cases sw <;> rfl) ?_
    refine QW.aload_n dMo_readSource_12 rfl rfl ?_
    refine MW.geti hX dMo_readSource_13 fMo_128 rfl rfl ?_
    refine MW.cald hX dMo_readSource_16 rfl (h2 z0).1 (rep_get (h2 z0).2) ?_
    refine QW.bipush (v := 65) dMo_readSource_17 (by decide) ?_
    refine QW.isub dMo_readSource_19 ?_
    refine QW.goto (tgt := 27) dMo_readSource_20 (by decide) ?_
    exact (k3 z0)
theorem bMo_readSource_27 {a1 : Int32} {s0 : Int32} (hX : X.length = 13) (k1 : (s0 < (mem 193 1)) → QW d mMo_next 0 (qen 2 [.ref 193]) [] (hpo X mem sw o e) (qcl d mMo_readSource 39 42 (lMo_readSource_42 a1 s0) [] P)) (k2 : (¬ s0 < (mem 193 1)) → P (.inl (some (.int 0)), (hpo X mem sw o e))) : QW (d + 1) mMo_readSource 27 (lMo_readSource_27 a1) [.int s0] (hpo X mem sw o e) P := by
  show QW (d + 1) mMo_readSource 27 [.val (.ref 193), .val (.int a1), .unset, .unset, .unset] [.int s0] (hpo X mem sw o e) P
  refine QW.istore_n (ls' := [.val (.ref 193), .val (.int a1), .val (.int s0), .unset, .unset]) dMo_readSource_27 rfl rfl ?_
  refine QW.iload_n dMo_readSource_28 rfl rfl ?_
  refine QW.aload_n dMo_readSource_29 rfl rfl ?_
  refine MW.geti hX dMo_readSource_30 fMo_109 rfl rfl ?_
  refine QW.icmp_lt (tgt := 38) dMo_readSource_33 (by decide) (fun z0 => ?_) (fun z0 => ?_)
  · refine QW.aload_n dMo_readSource_38 rfl rfl ?_
    exact MW.calV (as := []) (rest := []) hX dMo_readSource_39 eMo_next lMo_154 iMo_next vMo_next rfl rfl rfl rfl rfl rfl (Nat.le_of_ble_eq_true rfl) rfl (k1 z0)
  · refine QW.iconst (v := 0) dMo_readSource_36 (by decide) ?_
    exact QW.iret dMo_readSource_37 rfl rfl (k2 z0)
theorem bMo_readSource_42 {a1 : Int32} {a2 : Int32} (hX : X.length = 13) (k1 : (¬ (mem 193 9) = 1) → QW d mMo_readSource 67 (lMo_readSource_67 a1 a2) [] (hpo X mem sw o e) P) (k2 : ((mem 193 9) = 1) → (¬ ((mem 193 11) - (mem 193 10)) = 1) → QW d mMo_readSource 67 (lMo_readSource_67 a1 a2) [] (hpo X mem sw o e) P) (k3 : ((mem 193 9) = 1) → (((mem 193 11) - (mem 193 10)) = 1) → QW d mMo_readSource 68 (lMo_readSource_68 a1 a2) [.int 1] (hpo X mem sw o e) P) : QW d mMo_readSource 42 (lMo_readSource_42 a1 a2) [] (hpo X mem sw o e) P := by
  show QW d mMo_readSource 42 [.val (.ref 193), .val (.int a1), .val (.int a2), .unset, .unset] [] (hpo X mem sw o e) P
  refine QW.aload_n dMo_readSource_42 rfl rfl ?_
  refine MW.geti hX dMo_readSource_43 fMo_135 rfl rfl ?_
  refine QW.iconst (v := 1) dMo_readSource_46 (by decide) ?_
  refine QW.icmp_ne (tgt := 67) dMo_readSource_47 (by decide) (fun z0 => ?_) (fun z0 => ?_)
  · exact (k1 z0)
  · refine QW.aload_n dMo_readSource_50 rfl rfl ?_
    refine MW.geti hX dMo_readSource_51 fMo_125 rfl rfl ?_
    refine QW.aload_n dMo_readSource_54 rfl rfl ?_
    refine MW.geti hX dMo_readSource_55 fMo_128 rfl rfl ?_
    refine QW.isub dMo_readSource_58 ?_
    refine QW.iconst (v := 1) dMo_readSource_59 (by decide) ?_
    refine QW.icmp_ne (tgt := 67) dMo_readSource_60 (by decide) (fun z1 => ?_) (fun z1 => ?_)
    · exact (k2 z0 z1)
    · refine QW.iconst (v := 1) dMo_readSource_63 (by decide) ?_
      refine QW.goto (tgt := 68) dMo_readSource_64 (by decide) ?_
      exact (k3 z0 z1)
theorem bMo_readSource_67 {a1 : Int32} {a2 : Int32} (hX : X.length = 13) (k1 : QW d mMo_readSource 68 (lMo_readSource_68 a1 a2) [.int 0] (hpo X mem sw o e) P) : QW d mMo_readSource 67 (lMo_readSource_67 a1 a2) [] (hpo X mem sw o e) P := by
  show QW d mMo_readSource 67 [.val (.ref 193), .val (.int a1), .val (.int a2), .unset, .unset] [] (hpo X mem sw o e) P
  refine QW.iconst (v := 0) dMo_readSource_67 (by decide) ?_
  exact k1
theorem bMo_readSource_68 {a1 : Int32} {a2 : Int32} {s0 : Int32} (hX : X.length = 13) (k1 : QW d mMo_readSource 72 (lMo_readSource_72 a1 a2 s0 0) [] (hpo X mem sw o e) P) : QW d mMo_readSource 68 (lMo_readSource_68 a1 a2) [.int s0] (hpo X mem sw o e) P := by
  show QW d mMo_readSource 68 [.val (.ref 193), .val (.int a1), .val (.int a2), .unset, .unset] [.int s0] (hpo X mem sw o e) P
  refine QW.istore_n (ls' := [.val (.ref 193), .val (.int a1), .val (.int a2), .val (.int s0), .unset]) dMo_readSource_68 rfl rfl ?_
  refine QW.iconst (v := 0) dMo_readSource_69 (by decide) ?_
  refine QW.istore (ls' := [.val (.ref 193), .val (.int a1), .val (.int a2), .val (.int s0), .val (.int 0)]) dMo_readSource_70 rfl ?_
  exact k1
theorem bMo_readSource_72 {a1 : Int32} {a2 : Int32} {a3 : Int32} {a4 : Int32} (hX : X.length = 13) (h1 : inx a1 15) (h2 : ((mem 204 (Int32.toNatClampNeg a1)) ≤ a4) → (¬ a3 = 0) → inx a1 15) (h3 : ((mem 204 (Int32.toNatClampNeg a1)) ≤ a4) → (¬ a3 = 0) → inx ((4 * a1) + (mem 204 (Int32.toNatClampNeg a1))) 60) (h4 : ((mem 204 (Int32.toNatClampNeg a1)) ≤ a4) → (¬ a3 = 0) → inx a1 15) (h5 : ((mem 204 (Int32.toNatClampNeg a1)) ≤ a4) → (¬ a3 = 0) → inx ((mup mem 205 (Int32.toNatClampNeg ((4 * a1) + (mem 204 (Int32.toNatClampNeg a1)))) a2) 193 10) 200) (h6 : ((mem 204 (Int32.toNatClampNeg a1)) ≤ a4) → (¬ a3 = 0) → inx ((4 * a1) + ((mup mem 205 (Int32.toNatClampNeg ((4 * a1) + (mem 204 (Int32.toNatClampNeg a1)))) a2) 204 (Int32.toNatClampNeg a1))) 60) (h7 : ((mem 204 (Int32.toNatClampNeg a1)) ≤ a4) → (¬ a3 = 0) → inx a1 15) (h8 : ((mem 204 (Int32.toNatClampNeg a1)) ≤ a4) → (¬ a3 = 0) → inx a1 15) (k9 : ((mem 204 (Int32.toNatClampNeg a1)) ≤ a4) → (¬ a3 = 0) → QW d mMo_next 0 (qen 2 [.ref 193]) [] (hpo X (mup (mup (mup mem 205 (Int32.toNatClampNeg ((4 * a1) + (mem 204 (Int32.toNatClampNeg a1)))) a2) 206 (Int32.toNatClampNeg ((4 * a1) + ((mup mem 205 (Int32.toNatClampNeg ((4 * a1) + (mem 204 (Int32.toNatClampNeg a1)))) a2) 204 (Int32.toNatClampNeg a1)))) (((mup mem 205 (Int32.toNatClampNeg ((4 * a1) + (mem 204 (Int32.toNatClampNeg a1)))) a2) 198 (Int32.toNatClampNeg ((mup mem 205 (Int32.toNatClampNeg ((4 * a1) + (mem 204 (Int32.toNatClampNeg a1)))) a2) 193 10))) - 97)) 204 (Int32.toNatClampNeg a1) (((mup (mup mem 205 (Int32.toNatClampNeg ((4 * a1) + (mem 204 (Int32.toNatClampNeg a1)))) a2) 206 (Int32.toNatClampNeg ((4 * a1) + ((mup mem 205 (Int32.toNatClampNeg ((4 * a1) + (mem 204 (Int32.toNatClampNeg a1)))) a2) 204 (Int32.toNatClampNeg a1)))) (((mup mem 205 (Int32.toNatClampNeg ((4 * a1) + (mem 204 (Int32.toNatClampNeg a1)))) a2) 198 (Int32.toNatClampNeg ((mup mem 205 (Int32.toNatClampNeg ((4 * a1) + (mem 204 (Int32.toNatClampNeg a1)))) a2) 193 10))) - 97)) 204 (Int32.toNatClampNeg a1)) + 1)) sw o e) (qcl d mMo_readSource 185 188 (lMo_readSource_188 a1 a2 a3 a4) [] P)) (k10 : ((mem 204 (Int32.toNatClampNeg a1)) ≤ a4) → (a3 = 0) → P (.inl (some (.int 0)), (hpo X mem sw o e))) (k11 : (¬ (mem 204 (Int32.toNatClampNeg a1)) ≤ a4) → (a3 = 0) → QW (d + 1) mMo_readSource 117 (lMo_readSource_117 a1 a2 a3 a4) [] (hpo X mem sw o e) P) (h12 : (¬ (mem 204 (Int32.toNatClampNeg a1)) ≤ a4) → (¬ a3 = 0) → inx ((4 * a1) + a4) 60) (h13 : (¬ (mem 204 (Int32.toNatClampNeg a1)) ≤ a4) → (¬ a3 = 0) → inx (mem 193 10) 200) (k14 : (¬ (mem 204 (Int32.toNatClampNeg a1)) ≤ a4) → (¬ a3 = 0) → ((mem 206 (Int32.toNatClampNeg ((4 * a1) + a4))) = ((mem 198 (Int32.toNatClampNeg (mem 193 10))) - 97)) → QW (d + 1) mMo_readSource 117 (lMo_readSource_117 a1 a2 a3 a4) [] (hpo X mem sw o e) P) (k15 : (¬ (mem 204 (Int32.toNatClampNeg a1)) ≤ a4) → (¬ a3 = 0) → (¬ (mem 206 (Int32.toNatClampNeg ((4 * a1) + a4))) = ((mem 198 (Int32.toNatClampNeg (mem 193 10))) - 97)) → QW (d + 1) mMo_readSource 118 (lMo_readSource_118 a1 a2 a3 a4) [.int 1] (hpo X mem sw o e) P) : QW (d + 1) mMo_readSource 72 (lMo_readSource_72 a1 a2 a3 a4) [] (hpo X mem sw o e) P := by
  show QW (d + 1) mMo_readSource 72 [.val (.ref 193), .val (.int a1), .val (.int a2), .val (.int a3), .val (.int a4)] [] (hpo X mem sw o e) P
  refine QW.iload dMo_readSource_72 rfl ?_
  refine QW.aload_n dMo_readSource_74 rfl rfl ?_
  refine MW.getr (r' := 204) hX dMo_readSource_75 fMo_46 rfl rfl (by cases sw <;> rfl) ?_
  refine QW.iload_n dMo_readSource_78 rfl rfl ?_
  refine MW.iald hX dMo_readSource_79 rfl h1.1 (rep_get h1.2) ?_
  refine QW.icmp_ge (tgt := 125) dMo_readSource_80 (by decide) (fun z0 => ?_) (fun z0 => ?_)
  · refine QW.iload_n dMo_readSource_125 rfl rfl ?_
    refine QW.if_ne (tgt := 131) dMo_readSource_126 (by decide) (fun z1 => ?_) (fun z1 => ?_)
    · refine QW.aload_n dMo_readSource_131 rfl rfl ?_
      refine MW.getr (r' := 205) hX dMo_readSource_132 fMo_49 rfl rfl (by cases sw <;> rfl) ?_
      refine QW.iconst (v := 4) dMo_readSource_135 (by decide) ?_
      refine QW.iload_n dMo_readSource_136 rfl rfl ?_
      refine QW.imul dMo_readSource_137 ?_
      refine QW.aload_n dMo_readSource_138 rfl rfl ?_
      refine MW.getr (r' := 204) hX dMo_readSource_139 fMo_46 rfl rfl (by cases sw <;> rfl) ?_
      refine QW.iload_n dMo_readSource_142 rfl rfl ?_
      refine MW.iald hX dMo_readSource_143 rfl (h2 z0 z1).1 (rep_get (h2 z0 z1).2) ?_
      refine QW.iadd dMo_readSource_144 ?_
      refine QW.iload_n dMo_readSource_145 rfl rfl ?_
      refine MW.iast hX dMo_readSource_146 rfl (h3 z0 z1).1 (rep_get (h3 z0 z1).2) ?_
      refine QW.aload_n dMo_readSource_147 rfl rfl ?_
      refine MW.getr (r' := 206) hX dMo_readSource_148 fMo_52 rfl rfl (by cases sw <;> rfl) ?_
      refine QW.iconst (v := 4) dMo_readSource_151 (by decide) ?_
      refine QW.iload_n dMo_readSource_152 rfl rfl ?_
      refine QW.imul dMo_readSource_153 ?_
      refine QW.aload_n dMo_readSource_154 rfl rfl ?_
      refine MW.getr (r' := 204) hX dMo_readSource_155 fMo_46 rfl rfl (by cases sw <;> rfl) ?_
      refine QW.iload_n dMo_readSource_158 rfl rfl ?_
      refine MW.iald hX dMo_readSource_159 rfl (h4 z0 z1).1 (rep_get (h4 z0 z1).2) ?_
      refine QW.iadd dMo_readSource_160 ?_
      refine QW.aload_n dMo_readSource_161 rfl rfl ?_
      refine MW.getr (r' := 198) hX dMo_readSource_162 fMo_23 rfl rfl (by cases sw <;> rfl) ?_
      refine QW.aload_n dMo_readSource_165 rfl rfl ?_
      refine MW.geti hX dMo_readSource_166 fMo_128 rfl rfl ?_
      refine MW.cald hX dMo_readSource_169 rfl (h5 z0 z1).1 (rep_get (h5 z0 z1).2) ?_
      refine QW.bipush (v := 97) dMo_readSource_170 (by decide) ?_
      refine QW.isub dMo_readSource_172 ?_
      refine MW.iast hX dMo_readSource_173 rfl (h6 z0 z1).1 (rep_get (h6 z0 z1).2) ?_
      refine QW.aload_n dMo_readSource_174 rfl rfl ?_
      refine MW.getr (r' := 204) hX dMo_readSource_175 fMo_46 rfl rfl (by cases sw <;> rfl) ?_
      refine QW.iload_n dMo_readSource_178 rfl rfl ?_
      refine QW.dup2 dMo_readSource_179 rfl rfl ?_
      refine MW.iald hX dMo_readSource_180 rfl (h7 z0 z1).1 (rep_get (h7 z0 z1).2) ?_
      refine QW.iconst (v := 1) dMo_readSource_181 (by decide) ?_
      refine QW.iadd dMo_readSource_182 ?_
      refine MW.iast hX dMo_readSource_183 rfl (h8 z0 z1).1 (rep_get (h8 z0 z1).2) ?_
      refine QW.aload_n dMo_readSource_184 rfl rfl ?_
      exact MW.calV (as := []) (rest := []) hX dMo_readSource_185 eMo_next lMo_154 iMo_next vMo_next rfl rfl rfl rfl rfl rfl (Nat.le_of_ble_eq_true rfl) rfl (k9 z0 z1)
    · refine QW.iconst (v := 0) dMo_readSource_129 (by decide) ?_
      exact QW.iret dMo_readSource_130 rfl rfl (k10 z0 z1)
  · refine QW.iload_n dMo_readSource_83 rfl rfl ?_
    refine QW.if_eq (tgt := 117) dMo_readSource_84 (by decide) (fun z1 => ?_) (fun z1 => ?_)
    · exact (k11 z0 z1)
    · refine QW.aload_n dMo_readSource_87 rfl rfl ?_
      refine MW.getr (r' := 206) hX dMo_readSource_88 fMo_52 rfl rfl (by cases sw <;> rfl) ?_
      refine QW.iconst (v := 4) dMo_readSource_91 (by decide) ?_
      refine QW.iload_n dMo_readSource_92 rfl rfl ?_
      refine QW.imul dMo_readSource_93 ?_
      refine QW.iload dMo_readSource_94 rfl ?_
      refine QW.iadd dMo_readSource_96 ?_
      refine MW.iald hX dMo_readSource_97 rfl (h12 z0 z1).1 (rep_get (h12 z0 z1).2) ?_
      refine QW.aload_n dMo_readSource_98 rfl rfl ?_
      refine MW.getr (r' := 198) hX dMo_readSource_99 fMo_23 rfl rfl (by cases sw <;> rfl) ?_
      refine QW.aload_n dMo_readSource_102 rfl rfl ?_
      refine MW.geti hX dMo_readSource_103 fMo_128 rfl rfl ?_
      refine MW.cald hX dMo_readSource_106 rfl (h13 z0 z1).1 (rep_get (h13 z0 z1).2) ?_
      refine QW.bipush (v := 97) dMo_readSource_107 (by decide) ?_
      refine QW.isub dMo_readSource_109 ?_
      refine QW.icmp_eq (tgt := 117) dMo_readSource_110 (by decide) (fun z2 => ?_) (fun z2 => ?_)
      · exact (k14 z0 z1 z2)
      · refine QW.iconst (v := 1) dMo_readSource_113 (by decide) ?_
        refine QW.goto (tgt := 118) dMo_readSource_114 (by decide) ?_
        exact (k15 z0 z1 z2)
theorem bMo_readSource_117 {a1 : Int32} {a2 : Int32} {a3 : Int32} {a4 : Int32} (hX : X.length = 13) (k1 : QW d mMo_readSource 118 (lMo_readSource_118 a1 a2 a3 a4) [.int 0] (hpo X mem sw o e) P) : QW d mMo_readSource 117 (lMo_readSource_117 a1 a2 a3 a4) [] (hpo X mem sw o e) P := by
  show QW d mMo_readSource 117 [.val (.ref 193), .val (.int a1), .val (.int a2), .val (.int a3), .val (.int a4)] [] (hpo X mem sw o e) P
  refine QW.iconst (v := 0) dMo_readSource_117 (by decide) ?_
  exact k1
theorem bMo_readSource_118 {a1 : Int32} {a2 : Int32} {a3 : Int32} {a4 : Int32} {s0 : Int32} (hX : X.length = 13) (k1 : QW d mMo_readSource 72 (lMo_readSource_72 a1 a2 s0 (a4 + 1)) [] (hpo X mem sw o e) P) : QW d mMo_readSource 118 (lMo_readSource_118 a1 a2 a3 a4) [.int s0] (hpo X mem sw o e) P := by
  show QW d mMo_readSource 118 [.val (.ref 193), .val (.int a1), .val (.int a2), .val (.int a3), .val (.int a4)] [.int s0] (hpo X mem sw o e) P
  refine QW.istore_n (ls' := [.val (.ref 193), .val (.int a1), .val (.int a2), .val (.int s0), .val (.int a4)]) dMo_readSource_118 rfl rfl ?_
  refine MW.iinc (c := 1) (ls' := [.val (.ref 193), .val (.int a1), .val (.int a2), .val (.int s0), .val (.int (a4 + 1))]) dMo_readSource_119 (by decide) rfl rfl ?_
  refine QW.goto (tgt := 72) dMo_readSource_122 (by decide) ?_
  exact k1
theorem bMo_readSource_188 {a1 : Int32} {a2 : Int32} {a3 : Int32} {a4 : Int32} (hX : X.length = 13) (k1 : P (.inl (some (.int 1)), (hpo X mem sw o e))) : QW d mMo_readSource 188 (lMo_readSource_188 a1 a2 a3 a4) [] (hpo X mem sw o e) P := by
  show QW d mMo_readSource 188 [.val (.ref 193), .val (.int a1), .val (.int a2), .val (.int a3), .val (.int a4)] [] (hpo X mem sw o e) P
  refine QW.iconst (v := 1) dMo_readSource_188 (by decide) ?_
  exact QW.iret dMo_readSource_189 rfl rfl k1
theorem dMo_readSources_0 : decode mMo_readSources.2.1 0 = .ok (.aload_n 0, 1) := by decide +kernel
theorem dMo_readSources_1 : decode mMo_readSources.2.1 1 = .ok (.getfield 46, 3) := by decide +kernel
theorem dMo_readSources_4 : decode mMo_readSources.2.1 4 = .ok (.iload_n 1, 1) := by decide +kernel
theorem dMo_readSources_5 : decode mMo_readSources.2.1 5 = .ok (.iconst 0, 1) := by decide +kernel
theorem dMo_readSources_6 : decode mMo_readSources.2.1 6 = .ok (.iastore, 1) := by decide +kernel
theorem dMo_readSources_7 : decode mMo_readSources.2.1 7 = .ok (.iconst 1, 1) := by decide +kernel
theorem dMo_readSources_8 : decode mMo_readSources.2.1 8 = .ok (.istore_n 2, 1) := by decide +kernel
theorem dMo_readSources_9 : decode mMo_readSources.2.1 9 = .ok (.iload_n 2, 1) := by decide +kernel
theorem dMo_readSources_10 : decode mMo_readSources.2.1 10 = .ok (.ifCond .eq 41, 3) := by decide +kernel
theorem dMo_readSources_13 : decode mMo_readSources.2.1 13 = .ok (.aload_n 0, 1) := by decide +kernel
theorem dMo_readSources_14 : decode mMo_readSources.2.1 14 = .ok (.iload_n 1, 1) := by decide +kernel
theorem dMo_readSources_15 : decode mMo_readSources.2.1 15 = .ok (.invokevirtual 164, 3) := by decide +kernel
theorem dMo_readSources_18 : decode mMo_readSources.2.1 18 = .ok (.ifCond .ne 5, 3) := by decide +kernel
theorem dMo_readSources_21 : decode mMo_readSources.2.1 21 = .ok (.iconst 0, 1) := by decide +kernel
theorem dMo_readSources_22 : decode mMo_readSources.2.1 22 = .ok (.ireturn, 1) := by decide +kernel
theorem dMo_readSources_23 : decode mMo_readSources.2.1 23 = .ok (.aload_n 0, 1) := by decide +kernel
theorem dMo_readSources_24 : decode mMo_readSources.2.1 24 = .ok (.getfield 46, 3) := by decide +kernel
theorem dMo_readSources_27 : decode mMo_readSources.2.1 27 = .ok (.iload_n 1, 1) := by decide +kernel
theorem dMo_readSources_28 : decode mMo_readSources.2.1 28 = .ok (.iaload, 1) := by decide +kernel
theorem dMo_readSources_29 : decode mMo_readSources.2.1 29 = .ok (.iconst 4, 1) := by decide +kernel
theorem dMo_readSources_30 : decode mMo_readSources.2.1 30 = .ok (.if_icmp .ge 16, 3) := by decide +kernel
theorem dMo_readSources_33 : decode mMo_readSources.2.1 33 = .ok (.aload_n 0, 1) := by decide +kernel
theorem dMo_readSources_34 : decode mMo_readSources.2.1 34 = .ok (.bipush 44, 2) := by decide +kernel
theorem dMo_readSources_36 : decode mMo_readSources.2.1 36 = .ok (.invokevirtual 157, 3) := by decide +kernel
theorem dMo_readSources_39 : decode mMo_readSources.2.1 39 = .ok (.ifCond .eq 7, 3) := by decide +kernel
theorem dMo_readSources_42 : decode mMo_readSources.2.1 42 = .ok (.iconst 1, 1) := by decide +kernel
theorem dMo_readSources_43 : decode mMo_readSources.2.1 43 = .ok (.goto 4, 3) := by decide +kernel
theorem dMo_readSources_46 : decode mMo_readSources.2.1 46 = .ok (.iconst 0, 1) := by decide +kernel
theorem dMo_readSources_47 : decode mMo_readSources.2.1 47 = .ok (.istore_n 2, 1) := by decide +kernel
theorem dMo_readSources_48 : decode mMo_readSources.2.1 48 = .ok (.goto (-39), 3) := by decide +kernel
theorem dMo_readSources_51 : decode mMo_readSources.2.1 51 = .ok (.iconst 1, 1) := by decide +kernel
theorem dMo_readSources_52 : decode mMo_readSources.2.1 52 = .ok (.ireturn, 1) := by decide +kernel
def lMo_readSources_9 (a1 : Int32) (a2 : Int32) : List Slot := [.val (.ref 193), .val (.int a1), .val (.int a2)]
def lMo_readSources_18 (a1 : Int32) (a2 : Int32) : List Slot := [.val (.ref 193), .val (.int a1), .val (.int a2)]
def lMo_readSources_39 (a1 : Int32) (a2 : Int32) : List Slot := [.val (.ref 193), .val (.int a1), .val (.int a2)]
def lMo_readSources_46 (a1 : Int32) (a2 : Int32) : List Slot := [.val (.ref 193), .val (.int a1), .val (.int a2)]
def lMo_readSources_47 (a1 : Int32) (a2 : Int32) : List Slot := [.val (.ref 193), .val (.int a1), .val (.int a2)]
theorem bMo_readSources_0 {a1 : Int32} (hX : X.length = 13) (h1 : inx a1 15) (k2 : QW d mMo_readSources 9 (lMo_readSources_9 a1 1) [] (hpo X (mup mem 204 (Int32.toNatClampNeg a1) 0) sw o e) P) : QW d mMo_readSources 0 (qen 3 [.ref 193, .int a1]) [] (hpo X mem sw o e) P := by
  show QW d mMo_readSources 0 [.val (.ref 193), .val (.int a1), .unset] [] (hpo X mem sw o e) P
  refine QW.aload_n dMo_readSources_0 rfl rfl ?_
  refine MW.getr (r' := 204) hX dMo_readSources_1 fMo_46 rfl rfl (by cases sw <;> rfl) ?_
  refine QW.iload_n dMo_readSources_4 rfl rfl ?_
  refine QW.iconst (v := 0) dMo_readSources_5 (by decide) ?_
  refine MW.iast hX dMo_readSources_6 rfl h1.1 (rep_get h1.2) ?_
  refine QW.iconst (v := 1) dMo_readSources_7 (by decide) ?_
  refine QW.istore_n (ls' := [.val (.ref 193), .val (.int a1), .val (.int 1)]) dMo_readSources_8 rfl rfl ?_
  exact k2
theorem bMo_readSources_9 {a1 : Int32} {a2 : Int32} (hX : X.length = 13) (k1 : (a2 = 0) → P (.inl (some (.int 1)), (hpo X mem sw o e))) (k2 : (¬ a2 = 0) → QW d mMo_readSource 0 (qen 5 [.ref 193, .int a1]) [] (hpo X mem sw o e) (qcl d mMo_readSources 15 18 (lMo_readSources_18 a1 a2) [] P)) : QW (d + 1) mMo_readSources 9 (lMo_readSources_9 a1 a2) [] (hpo X mem sw o e) P := by
  show QW (d + 1) mMo_readSources 9 [.val (.ref 193), .val (.int a1), .val (.int a2)] [] (hpo X mem sw o e) P
  refine QW.iload_n dMo_readSources_9 rfl rfl ?_
  refine QW.if_eq (tgt := 51) dMo_readSources_10 (by decide) (fun z0 => ?_) (fun z0 => ?_)
  · refine QW.iconst (v := 1) dMo_readSources_51 (by decide) ?_
    exact QW.iret dMo_readSources_52 rfl rfl (k1 z0)
  · refine QW.aload_n dMo_readSources_13 rfl rfl ?_
    refine QW.iload_n dMo_readSources_14 rfl rfl ?_
    exact MW.calV (as := [.int a1]) (rest := []) hX dMo_readSources_15 eMo_readSource lMo_164 iMo_readSource vMo_readSource rfl rfl rfl rfl rfl rfl (Nat.le_of_ble_eq_true rfl) rfl (k2 z0)
theorem bMo_readSources_18 {a1 : Int32} {a2 : Int32} {s0 : Int32} (hX : X.length = 13) (h1 : (¬ s0 = 0) → inx a1 15) (k2 : (¬ s0 = 0) → (4 ≤ (mem 204 (Int32.toNatClampNeg a1))) → QW (d + 1) mMo_readSources 46 (lMo_readSources_46 a1 a2) [] (hpo X mem sw o e) P) (k3 : (¬ s0 = 0) → (¬ 4 ≤ (mem 204 (Int32.toNatClampNeg a1))) → QW d mMo_passes 0 (qen 3 [.ref 193, .int 44]) [] (hpo X mem sw o e) (qcl d mMo_readSources 36 39 (lMo_readSources_39 a1 a2) [] P)) (k4 : (s0 = 0) → P (.inl (some (.int 0)), (hpo X mem sw o e))) : QW (d + 1) mMo_readSources 18 (lMo_readSources_18 a1 a2) [.int s0] (hpo X mem sw o e) P := by
  show QW (d + 1) mMo_readSources 18 [.val (.ref 193), .val (.int a1), .val (.int a2)] [.int s0] (hpo X mem sw o e) P
  refine QW.if_ne (tgt := 23) dMo_readSources_18 (by decide) (fun z0 => ?_) (fun z0 => ?_)
  · refine QW.aload_n dMo_readSources_23 rfl rfl ?_
    refine MW.getr (r' := 204) hX dMo_readSources_24 fMo_46 rfl rfl (by cases sw <;> rfl) ?_
    refine QW.iload_n dMo_readSources_27 rfl rfl ?_
    refine MW.iald hX dMo_readSources_28 rfl (h1 z0).1 (rep_get (h1 z0).2) ?_
    refine QW.iconst (v := 4) dMo_readSources_29 (by decide) ?_
    refine QW.icmp_ge (tgt := 46) dMo_readSources_30 (by decide) (fun z1 => ?_) (fun z1 => ?_)
    · exact (k2 z0 z1)
    · refine QW.aload_n dMo_readSources_33 rfl rfl ?_
      refine QW.bipush (v := 44) dMo_readSources_34 (by decide) ?_
      exact MW.calV (as := [.int 44]) (rest := []) hX dMo_readSources_36 eMo_passes lMo_157 iMo_passes vMo_passes rfl rfl rfl rfl rfl rfl (Nat.le_of_ble_eq_true rfl) rfl (k3 z0 z1)
  · refine QW.iconst (v := 0) dMo_readSources_21 (by decide) ?_
    exact QW.iret dMo_readSources_22 rfl rfl (k4 z0)
theorem bMo_readSources_39 {a1 : Int32} {a2 : Int32} {s0 : Int32} (hX : X.length = 13) (k1 : (s0 = 0) → QW d mMo_readSources 46 (lMo_readSources_46 a1 a2) [] (hpo X mem sw o e) P) (k2 : (¬ s0 = 0) → QW d mMo_readSources 47 (lMo_readSources_47 a1 a2) [.int 1] (hpo X mem sw o e) P) : QW d mMo_readSources 39 (lMo_readSources_39 a1 a2) [.int s0] (hpo X mem sw o e) P := by
  show QW d mMo_readSources 39 [.val (.ref 193), .val (.int a1), .val (.int a2)] [.int s0] (hpo X mem sw o e) P
  refine QW.if_eq (tgt := 46) dMo_readSources_39 (by decide) (fun z0 => ?_) (fun z0 => ?_)
  · exact (k1 z0)
  · refine QW.iconst (v := 1) dMo_readSources_42 (by decide) ?_
    refine QW.goto (tgt := 47) dMo_readSources_43 (by decide) ?_
    exact (k2 z0)
theorem bMo_readSources_46 {a1 : Int32} {a2 : Int32} (hX : X.length = 13) (k1 : QW d mMo_readSources 47 (lMo_readSources_47 a1 a2) [.int 0] (hpo X mem sw o e) P) : QW d mMo_readSources 46 (lMo_readSources_46 a1 a2) [] (hpo X mem sw o e) P := by
  show QW d mMo_readSources 46 [.val (.ref 193), .val (.int a1), .val (.int a2)] [] (hpo X mem sw o e) P
  refine QW.iconst (v := 0) dMo_readSources_46 (by decide) ?_
  exact k1
theorem bMo_readSources_47 {a1 : Int32} {a2 : Int32} {s0 : Int32} (hX : X.length = 13) (k1 : QW d mMo_readSources 9 (lMo_readSources_9 a1 s0) [] (hpo X mem sw o e) P) : QW d mMo_readSources 47 (lMo_readSources_47 a1 a2) [.int s0] (hpo X mem sw o e) P := by
  show QW d mMo_readSources 47 [.val (.ref 193), .val (.int a1), .val (.int a2)] [.int s0] (hpo X mem sw o e) P
  refine QW.istore_n (ls' := [.val (.ref 193), .val (.int a1), .val (.int s0)]) dMo_readSources_47 rfl rfl ?_
  refine QW.goto (tgt := 9) dMo_readSources_48 (by decide) ?_
  exact k1
theorem dMo_readConditions_0 : decode mMo_readConditions.2.1 0 = .ok (.iconst 1, 1) := by decide +kernel
theorem dMo_readConditions_1 : decode mMo_readConditions.2.1 1 = .ok (.istore_n 2, 1) := by decide +kernel
theorem dMo_readConditions_2 : decode mMo_readConditions.2.1 2 = .ok (.iload_n 2, 1) := by decide +kernel
theorem dMo_readConditions_3 : decode mMo_readConditions.2.1 3 = .ok (.ifCond .eq 139, 3) := by decide +kernel
theorem dMo_readConditions_6 : decode mMo_readConditions.2.1 6 = .ok (.bipush 6, 2) := by decide +kernel
theorem dMo_readConditions_8 : decode mMo_readConditions.2.1 8 = .ok (.iload_n 1, 1) := by decide +kernel
theorem dMo_readConditions_9 : decode mMo_readConditions.2.1 9 = .ok (.imul, 1) := by decide +kernel
theorem dMo_readConditions_10 : decode mMo_readConditions.2.1 10 = .ok (.aload_n 0, 1) := by decide +kernel
theorem dMo_readConditions_11 : decode mMo_readConditions.2.1 11 = .ok (.getfield 55, 3) := by decide +kernel
theorem dMo_readConditions_14 : decode mMo_readConditions.2.1 14 = .ok (.iload_n 1, 1) := by decide +kernel
theorem dMo_readConditions_15 : decode mMo_readConditions.2.1 15 = .ok (.iaload, 1) := by decide +kernel
theorem dMo_readConditions_16 : decode mMo_readConditions.2.1 16 = .ok (.iadd, 1) := by decide +kernel
theorem dMo_readConditions_17 : decode mMo_readConditions.2.1 17 = .ok (.istore_n 3, 1) := by decide +kernel
theorem dMo_readConditions_18 : decode mMo_readConditions.2.1 18 = .ok (.aload_n 0, 1) := by decide +kernel
theorem dMo_readConditions_19 : decode mMo_readConditions.2.1 19 = .ok (.getfield 58, 3) := by decide +kernel
theorem dMo_readConditions_22 : decode mMo_readConditions.2.1 22 = .ok (.iload_n 3, 1) := by decide +kernel
theorem dMo_readConditions_23 : decode mMo_readConditions.2.1 23 = .ok (.aload_n 0, 1) := by decide +kernel
theorem dMo_readConditions_24 : decode mMo_readConditions.2.1 24 = .ok (.invokevirtual 160, 3) := by decide +kernel
theorem dMo_readConditions_27 : decode mMo_readConditions.2.1 27 = .ok (.iastore, 1) := by decide +kernel
theorem dMo_readConditions_28 : decode mMo_readConditions.2.1 28 = .ok (.aload_n 0, 1) := by decide +kernel
theorem dMo_readConditions_29 : decode mMo_readConditions.2.1 29 = .ok (.getfield 64, 3) := by decide +kernel
theorem dMo_readConditions_32 : decode mMo_readConditions.2.1 32 = .ok (.iload_n 3, 1) := by decide +kernel
theorem dMo_readConditions_33 : decode mMo_readConditions.2.1 33 = .ok (.aload_n 0, 1) := by decide +kernel
theorem dMo_readConditions_34 : decode mMo_readConditions.2.1 34 = .ok (.bipush 60, 2) := by decide +kernel
theorem dMo_readConditions_36 : decode mMo_readConditions.2.1 36 = .ok (.invokevirtual 151, 3) := by decide +kernel
theorem dMo_readConditions_39 : decode mMo_readConditions.2.1 39 = .ok (.bastore, 1) := by decide +kernel
theorem dMo_readConditions_40 : decode mMo_readConditions.2.1 40 = .ok (.aload_n 0, 1) := by decide +kernel
theorem dMo_readConditions_41 : decode mMo_readConditions.2.1 41 = .ok (.getfield 58, 3) := by decide +kernel
theorem dMo_readConditions_44 : decode mMo_readConditions.2.1 44 = .ok (.iload_n 3, 1) := by decide +kernel
theorem dMo_readConditions_45 : decode mMo_readConditions.2.1 45 = .ok (.iaload, 1) := by decide +kernel
theorem dMo_readConditions_46 : decode mMo_readConditions.2.1 46 = .ok (.ifCond .lt 21, 3) := by decide +kernel
theorem dMo_readConditions_49 : decode mMo_readConditions.2.1 49 = .ok (.aload_n 0, 1) := by decide +kernel
theorem dMo_readConditions_50 : decode mMo_readConditions.2.1 50 = .ok (.bipush 60, 2) := by decide +kernel
theorem dMo_readConditions_52 : decode mMo_readConditions.2.1 52 = .ok (.invokevirtual 151, 3) := by decide +kernel
theorem dMo_readConditions_55 : decode mMo_readConditions.2.1 55 = .ok (.ifCond .ne 14, 3) := by decide +kernel
theorem dMo_readConditions_58 : decode mMo_readConditions.2.1 58 = .ok (.aload_n 0, 1) := by decide +kernel
theorem dMo_readConditions_59 : decode mMo_readConditions.2.1 59 = .ok (.bipush 61, 2) := by decide +kernel
theorem dMo_readConditions_61 : decode mMo_readConditions.2.1 61 = .ok (.invokevirtual 151, 3) := by decide +kernel
theorem dMo_readConditions_64 : decode mMo_readConditions.2.1 64 = .ok (.ifCond .ne 5, 3) := by decide +kernel
theorem dMo_readConditions_67 : decode mMo_readConditions.2.1 67 = .ok (.iconst 0, 1) := by decide +kernel
theorem dMo_readConditions_68 : decode mMo_readConditions.2.1 68 = .ok (.ireturn, 1) := by decide +kernel
theorem dMo_readConditions_69 : decode mMo_readConditions.2.1 69 = .ok (.aload_n 0, 1) := by decide +kernel
theorem dMo_readConditions_70 : decode mMo_readConditions.2.1 70 = .ok (.invokevirtual 154, 3) := by decide +kernel
theorem dMo_readConditions_73 : decode mMo_readConditions.2.1 73 = .ok (.aload_n 0, 1) := by decide +kernel
theorem dMo_readConditions_74 : decode mMo_readConditions.2.1 74 = .ok (.getfield 61, 3) := by decide +kernel
theorem dMo_readConditions_77 : decode mMo_readConditions.2.1 77 = .ok (.iload_n 3, 1) := by decide +kernel
theorem dMo_readConditions_78 : decode mMo_readConditions.2.1 78 = .ok (.aload_n 0, 1) := by decide +kernel
theorem dMo_readConditions_79 : decode mMo_readConditions.2.1 79 = .ok (.invokevirtual 160, 3) := by decide +kernel
theorem dMo_readConditions_82 : decode mMo_readConditions.2.1 82 = .ok (.iastore, 1) := by decide +kernel
theorem dMo_readConditions_83 : decode mMo_readConditions.2.1 83 = .ok (.aload_n 0, 1) := by decide +kernel
theorem dMo_readConditions_84 : decode mMo_readConditions.2.1 84 = .ok (.getfield 61, 3) := by decide +kernel
theorem dMo_readConditions_87 : decode mMo_readConditions.2.1 87 = .ok (.iload_n 3, 1) := by decide +kernel
theorem dMo_readConditions_88 : decode mMo_readConditions.2.1 88 = .ok (.iaload, 1) := by decide +kernel
theorem dMo_readConditions_89 : decode mMo_readConditions.2.1 89 = .ok (.ifCond .ge 5, 3) := by decide +kernel
theorem dMo_readConditions_92 : decode mMo_readConditions.2.1 92 = .ok (.iconst 0, 1) := by decide +kernel
theorem dMo_readConditions_93 : decode mMo_readConditions.2.1 93 = .ok (.ireturn, 1) := by decide +kernel
theorem dMo_readConditions_94 : decode mMo_readConditions.2.1 94 = .ok (.aload_n 0, 1) := by decide +kernel
theorem dMo_readConditions_95 : decode mMo_readConditions.2.1 95 = .ok (.getfield 55, 3) := by decide +kernel
theorem dMo_readConditions_98 : decode mMo_readConditions.2.1 98 = .ok (.iload_n 1, 1) := by decide +kernel
theorem dMo_readConditions_99 : decode mMo_readConditions.2.1 99 = .ok (.dup2, 1) := by decide +kernel
theorem dMo_readConditions_100 : decode mMo_readConditions.2.1 100 = .ok (.iaload, 1) := by decide +kernel
theorem dMo_readConditions_101 : decode mMo_readConditions.2.1 101 = .ok (.iconst 1, 1) := by decide +kernel
theorem dMo_readConditions_102 : decode mMo_readConditions.2.1 102 = .ok (.iadd, 1) := by decide +kernel
theorem dMo_readConditions_103 : decode mMo_readConditions.2.1 103 = .ok (.iastore, 1) := by decide +kernel
theorem dMo_readConditions_104 : decode mMo_readConditions.2.1 104 = .ok (.aload_n 0, 1) := by decide +kernel
theorem dMo_readConditions_105 : decode mMo_readConditions.2.1 105 = .ok (.getfield 55, 3) := by decide +kernel
theorem dMo_readConditions_108 : decode mMo_readConditions.2.1 108 = .ok (.iload_n 1, 1) := by decide +kernel
theorem dMo_readConditions_109 : decode mMo_readConditions.2.1 109 = .ok (.iaload, 1) := by decide +kernel
theorem dMo_readConditions_110 : decode mMo_readConditions.2.1 110 = .ok (.bipush 6, 2) := by decide +kernel
theorem dMo_readConditions_112 : decode mMo_readConditions.2.1 112 = .ok (.if_icmp .ge 25, 3) := by decide +kernel
theorem dMo_readConditions_115 : decode mMo_readConditions.2.1 115 = .ok (.aload_n 0, 1) := by decide +kernel
theorem dMo_readConditions_116 : decode mMo_readConditions.2.1 116 = .ok (.aload_n 0, 1) := by decide +kernel
theorem dMo_readConditions_117 : decode mMo_readConditions.2.1 117 = .ok (.iconst 3, 1) := by decide +kernel
theorem dMo_readConditions_118 : decode mMo_readConditions.2.1 118 = .ok (.bipush 97, 2) := by decide +kernel
theorem dMo_readConditions_120 : decode mMo_readConditions.2.1 120 = .ok (.bipush 110, 2) := by decide +kernel
theorem dMo_readConditions_122 : decode mMo_readConditions.2.1 122 = .ok (.bipush 100, 2) := by decide +kernel
theorem dMo_readConditions_124 : decode mMo_readConditions.2.1 124 = .ok (.invokevirtual 168, 3) := by decide +kernel
theorem dMo_readConditions_127 : decode mMo_readConditions.2.1 127 = .ok (.invokevirtual 172, 3) := by decide +kernel
theorem dMo_readConditions_130 : decode mMo_readConditions.2.1 130 = .ok (.ifCond .eq 7, 3) := by decide +kernel
theorem dMo_readConditions_133 : decode mMo_readConditions.2.1 133 = .ok (.iconst 1, 1) := by decide +kernel
theorem dMo_readConditions_134 : decode mMo_readConditions.2.1 134 = .ok (.goto 4, 3) := by decide +kernel
theorem dMo_readConditions_137 : decode mMo_readConditions.2.1 137 = .ok (.iconst 0, 1) := by decide +kernel
theorem dMo_readConditions_138 : decode mMo_readConditions.2.1 138 = .ok (.istore_n 2, 1) := by decide +kernel
theorem dMo_readConditions_139 : decode mMo_readConditions.2.1 139 = .ok (.goto (-137), 3) := by decide +kernel
theorem dMo_readConditions_142 : decode mMo_readConditions.2.1 142 = .ok (.iconst 1, 1) := by decide +kernel
theorem dMo_readConditions_143 : decode mMo_readConditions.2.1 143 = .ok (.ireturn, 1) := by decide +kernel
def lMo_readConditions_2 (a1 : Int32) (a2 : Int32) (w3 : Slot) : List Slot := [.val (.ref 193), .val (.int a1), .val (.int a2), w3]
def lMo_readConditions_27 (a1 : Int32) (a2 : Int32) (a3 : Int32) : List Slot := [.val (.ref 193), .val (.int a1), .val (.int a2), .val (.int a3)]
def lMo_readConditions_39 (a1 : Int32) (a2 : Int32) (a3 : Int32) : List Slot := [.val (.ref 193), .val (.int a1), .val (.int a2), .val (.int a3)]
def lMo_readConditions_55 (a1 : Int32) (a2 : Int32) (a3 : Int32) : List Slot := [.val (.ref 193), .val (.int a1), .val (.int a2), .val (.int a3)]
def lMo_readConditions_64 (a1 : Int32) (a2 : Int32) (a3 : Int32) : List Slot := [.val (.ref 193), .val (.int a1), .val (.int a2), .val (.int a3)]
def lMo_readConditions_69 (a1 : Int32) (a2 : Int32) (a3 : Int32) : List Slot := [.val (.ref 193), .val (.int a1), .val (.int a2), .val (.int a3)]
def lMo_readConditions_73 (a1 : Int32) (a2 : Int32) (a3 : Int32) : List Slot := [.val (.ref 193), .val (.int a1), .val (.int a2), .val (.int a3)]
def lMo_readConditions_82 (a1 : Int32) (a2 : Int32) (a3 : Int32) : List Slot := [.val (.ref 193), .val (.int a1), .val (.int a2), .val (.int a3)]
def lMo_readConditions_127 (a1 : Int32) (a2 : Int32) (a3 : Int32) : List Slot := [.val (.ref 193), .val (.int a1), .val (.int a2), .val (.int a3)]
def lMo_readConditions_130 (a1 : Int32) (a2 : Int32) (a3 : Int32) : List Slot := [.val (.ref 193), .val (.int a1), .val (.int a2), .val (.int a3)]
def lMo_readConditions_137 (a1 : Int32) (a2 : Int32) (a3 : Int32) : List Slot := [.val (.ref 193), .val (.int a1), .val (.int a2), .val (.int a3)]
def lMo_readConditions_138 (a1 : Int32) (a2 : Int32) (a3 : Int32) : List Slot := [.val (.ref 193), .val (.int a1), .val (.int a2), .val (.int a3)]
theorem bMo_readConditions_0 {a1 : Int32} (hX : X.length = 13) (k1 : QW d mMo_readConditions 2 (lMo_readConditions_2 a1 1 .unset) [] (hpo X mem sw o e) P) : QW d mMo_readConditions 0 (qen 4 [.ref 193, .int a1]) [] (hpo X mem sw o e) P := by
  show QW d mMo_readConditions 0 [.val (.ref 193), .val (.int a1), .unset, .unset] [] (hpo X mem sw o e) P
  refine QW.iconst (v := 1) dMo_readConditions_0 (by decide) ?_
  refine QW.istore_n (ls' := [.val (.ref 193), .val (.int a1), .val (.int 1), .unset]) dMo_readConditions_1 rfl rfl ?_
  exact k1
theorem bMo_readConditions_2 {a1 : Int32} {a2 : Int32} {w3 : Slot} (hX : X.length = 13) (hw3 : qfr w3) (k1 : (a2 = 0) → P (.inl (some (.int 1)), (hpo X mem sw o e))) (h2 : (¬ a2 = 0) → inx a1 15) (k3 : (¬ a2 = 0) → QW d mMo_value 0 (qen 3 [.ref 193]) [] (hpo X mem sw o e) (qcl d mMo_readConditions 24 27 (lMo_readConditions_27 a1 a2 ((6 * a1) + (mem 207 (Int32.toNatClampNeg a1)))) [.int ((6 * a1) + (mem 207 (Int32.toNatClampNeg a1))), .ref 208] P)) : QW (d + 1) mMo_readConditions 2 (lMo_readConditions_2 a1 a2 w3) [] (hpo X mem sw o e) P := by
  show QW (d + 1) mMo_readConditions 2 [.val (.ref 193), .val (.int a1), .val (.int a2), w3] [] (hpo X mem sw o e) P
  refine QW.iload_n dMo_readConditions_2 rfl rfl ?_
  refine QW.if_eq (tgt := 142) dMo_readConditions_3 (by decide) (fun z0 => ?_) (fun z0 => ?_)
  · refine QW.iconst (v := 1) dMo_readConditions_142 (by decide) ?_
    exact QW.iret dMo_readConditions_143 rfl rfl (k1 z0)
  · refine QW.bipush (v := 6) dMo_readConditions_6 (by decide) ?_
    refine QW.iload_n dMo_readConditions_8 rfl rfl ?_
    refine QW.imul dMo_readConditions_9 ?_
    refine QW.aload_n dMo_readConditions_10 rfl rfl ?_
    refine MW.getr (r' := 207) hX dMo_readConditions_11 fMo_55 rfl rfl (by cases sw <;> rfl) ?_
    refine QW.iload_n dMo_readConditions_14 rfl rfl ?_
    refine MW.iald hX dMo_readConditions_15 rfl (h2 z0).1 (rep_get (h2 z0).2) ?_
    refine QW.iadd dMo_readConditions_16 ?_
    refine QW.istore_n (ls' := [.val (.ref 193), .val (.int a1), .val (.int a2), .val (.int ((6 * a1) + (mem 207 (Int32.toNatClampNeg a1))))]) dMo_readConditions_17 rfl (by rcases hw3 with z | ⟨_, z⟩ | ⟨_, z⟩ <;> subst z <;> rfl) ?_
    refine QW.aload_n dMo_readConditions_18 rfl rfl ?_
    refine MW.getr (r' := 208) hX dMo_readConditions_19 fMo_58 rfl rfl (by cases sw <;> rfl) ?_
    refine QW.iload_n dMo_readConditions_22 rfl rfl ?_
    refine QW.aload_n dMo_readConditions_23 rfl rfl ?_
    exact MW.calV (as := []) (rest := [.int ((6 * a1) + (mem 207 (Int32.toNatClampNeg a1))), .ref 208]) hX dMo_readConditions_24 eMo_value lMo_160 iMo_value vMo_value rfl rfl rfl rfl rfl rfl (Nat.le_of_ble_eq_true rfl) rfl (k3 z0)
theorem bMo_readConditions_27 {a1 : Int32} {a2 : Int32} {a3 : Int32} {s2 : Int32} {s1 : Int32} (hX : X.length = 13) (h1 : inx s1 90) (k2 : QW d mMo_isIt 0 (qen 2 [.ref 193, .int 60]) [] (hpo X (mup mem 208 (Int32.toNatClampNeg s1) s2) sw o e) (qcl d mMo_readConditions 36 39 (lMo_readConditions_39 a1 a2 a3) [.int a3, .ref 210] P)) : QW (d + 1) mMo_readConditions 27 (lMo_readConditions_27 a1 a2 a3) [.int s2, .int s1, .ref 208] (hpo X mem sw o e) P := by
  show QW (d + 1) mMo_readConditions 27 [.val (.ref 193), .val (.int a1), .val (.int a2), .val (.int a3)] [.int s2, .int s1, .ref 208] (hpo X mem sw o e) P
  refine MW.iast hX dMo_readConditions_27 rfl h1.1 (rep_get h1.2) ?_
  refine QW.aload_n dMo_readConditions_28 rfl rfl ?_
  refine MW.getr (r' := 210) hX dMo_readConditions_29 fMo_64 rfl rfl (by cases sw <;> rfl) ?_
  refine QW.iload_n dMo_readConditions_32 rfl rfl ?_
  refine QW.aload_n dMo_readConditions_33 rfl rfl ?_
  refine QW.bipush (v := 60) dMo_readConditions_34 (by decide) ?_
  exact MW.calV (as := [.int 60]) (rest := [.int a3, .ref 210]) hX dMo_readConditions_36 eMo_isIt lMo_151 iMo_isIt vMo_isIt rfl rfl rfl rfl rfl rfl (Nat.le_of_ble_eq_true rfl) rfl k2
theorem bMo_readConditions_39 {a1 : Int32} {a2 : Int32} {a3 : Int32} {s2 : Int32} {s1 : Int32} (hX : X.length = 13) (h1 : inx s1 90) (h2 : narrow .boolean (.int s2) = .int s2) (h3 : inx a3 90) (k4 : (((mup mem 210 (Int32.toNatClampNeg s1) s2) 208 (Int32.toNatClampNeg a3)) < 0) → P (.inl (some (.int 0)), (hpo X (mup mem 210 (Int32.toNatClampNeg s1) s2) sw o e))) (k5 : (¬ ((mup mem 210 (Int32.toNatClampNeg s1) s2) 208 (Int32.toNatClampNeg a3)) < 0) → QW d mMo_isIt 0 (qen 2 [.ref 193, .int 60]) [] (hpo X (mup mem 210 (Int32.toNatClampNeg s1) s2) sw o e) (qcl d mMo_readConditions 52 55 (lMo_readConditions_55 a1 a2 a3) [] P)) : QW (d + 1) mMo_readConditions 39 (lMo_readConditions_39 a1 a2 a3) [.int s2, .int s1, .ref 210] (hpo X mem sw o e) P := by
  show QW (d + 1) mMo_readConditions 39 [.val (.ref 193), .val (.int a1), .val (.int a2), .val (.int a3)] [.int s2, .int s1, .ref 210] (hpo X mem sw o e) P
  refine MW.zast hX dMo_readConditions_39 rfl h1.1 (rep_get h1.2) h2 ?_
  refine QW.aload_n dMo_readConditions_40 rfl rfl ?_
  refine MW.getr (r' := 208) hX dMo_readConditions_41 fMo_58 rfl rfl (by cases sw <;> rfl) ?_
  refine QW.iload_n dMo_readConditions_44 rfl rfl ?_
  refine MW.iald hX dMo_readConditions_45 rfl h3.1 (rep_get h3.2) ?_
  refine QW.if_lt (tgt := 67) dMo_readConditions_46 (by decide) (fun z0 => ?_) (fun z0 => ?_)
  · refine QW.iconst (v := 0) dMo_readConditions_67 (by decide) ?_
    exact QW.iret dMo_readConditions_68 rfl rfl (k4 z0)
  · refine QW.aload_n dMo_readConditions_49 rfl rfl ?_
    refine QW.bipush (v := 60) dMo_readConditions_50 (by decide) ?_
    exact MW.calV (as := [.int 60]) (rest := []) hX dMo_readConditions_52 eMo_isIt lMo_151 iMo_isIt vMo_isIt rfl rfl rfl rfl rfl rfl (Nat.le_of_ble_eq_true rfl) rfl (k5 z0)
theorem bMo_readConditions_55 {a1 : Int32} {a2 : Int32} {a3 : Int32} {s0 : Int32} (hX : X.length = 13) (k1 : (¬ s0 = 0) → QW (d + 1) mMo_readConditions 69 (lMo_readConditions_69 a1 a2 a3) [] (hpo X mem sw o e) P) (k2 : (s0 = 0) → QW d mMo_isIt 0 (qen 2 [.ref 193, .int 61]) [] (hpo X mem sw o e) (qcl d mMo_readConditions 61 64 (lMo_readConditions_64 a1 a2 a3) [] P)) : QW (d + 1) mMo_readConditions 55 (lMo_readConditions_55 a1 a2 a3) [.int s0] (hpo X mem sw o e) P := by
  show QW (d + 1) mMo_readConditions 55 [.val (.ref 193), .val (.int a1), .val (.int a2), .val (.int a3)] [.int s0] (hpo X mem sw o e) P
  refine QW.if_ne (tgt := 69) dMo_readConditions_55 (by decide) (fun z0 => ?_) (fun z0 => ?_)
  · exact (k1 z0)
  · refine QW.aload_n dMo_readConditions_58 rfl rfl ?_
    refine QW.bipush (v := 61) dMo_readConditions_59 (by decide) ?_
    exact MW.calV (as := [.int 61]) (rest := []) hX dMo_readConditions_61 eMo_isIt lMo_151 iMo_isIt vMo_isIt rfl rfl rfl rfl rfl rfl (Nat.le_of_ble_eq_true rfl) rfl (k2 z0)
theorem bMo_readConditions_64 {a1 : Int32} {a2 : Int32} {a3 : Int32} {s0 : Int32} (hX : X.length = 13) (k1 : (¬ s0 = 0) → QW d mMo_readConditions 69 (lMo_readConditions_69 a1 a2 a3) [] (hpo X mem sw o e) P) (k2 : (s0 = 0) → P (.inl (some (.int 0)), (hpo X mem sw o e))) : QW d mMo_readConditions 64 (lMo_readConditions_64 a1 a2 a3) [.int s0] (hpo X mem sw o e) P := by
  show QW d mMo_readConditions 64 [.val (.ref 193), .val (.int a1), .val (.int a2), .val (.int a3)] [.int s0] (hpo X mem sw o e) P
  refine QW.if_ne (tgt := 69) dMo_readConditions_64 (by decide) (fun z0 => ?_) (fun z0 => ?_)
  · exact (k1 z0)
  · refine QW.iconst (v := 0) dMo_readConditions_67 (by decide) ?_
    exact QW.iret dMo_readConditions_68 rfl rfl (k2 z0)
theorem bMo_readConditions_69 {a1 : Int32} {a2 : Int32} {a3 : Int32} (hX : X.length = 13) (k1 : QW d mMo_next 0 (qen 2 [.ref 193]) [] (hpo X mem sw o e) (qcl d mMo_readConditions 70 73 (lMo_readConditions_73 a1 a2 a3) [] P)) : QW (d + 1) mMo_readConditions 69 (lMo_readConditions_69 a1 a2 a3) [] (hpo X mem sw o e) P := by
  show QW (d + 1) mMo_readConditions 69 [.val (.ref 193), .val (.int a1), .val (.int a2), .val (.int a3)] [] (hpo X mem sw o e) P
  refine QW.aload_n dMo_readConditions_69 rfl rfl ?_
  exact MW.calV (as := []) (rest := []) hX dMo_readConditions_70 eMo_next lMo_154 iMo_next vMo_next rfl rfl rfl rfl rfl rfl (Nat.le_of_ble_eq_true rfl) rfl k1
theorem bMo_readConditions_73 {a1 : Int32} {a2 : Int32} {a3 : Int32} (hX : X.length = 13) (k1 : QW d mMo_value 0 (qen 3 [.ref 193]) [] (hpo X mem sw o e) (qcl d mMo_readConditions 79 82 (lMo_readConditions_82 a1 a2 a3) [.int a3, .ref 209] P)) : QW (d + 1) mMo_readConditions 73 (lMo_readConditions_73 a1 a2 a3) [] (hpo X mem sw o e) P := by
  show QW (d + 1) mMo_readConditions 73 [.val (.ref 193), .val (.int a1), .val (.int a2), .val (.int a3)] [] (hpo X mem sw o e) P
  refine QW.aload_n dMo_readConditions_73 rfl rfl ?_
  refine MW.getr (r' := 209) hX dMo_readConditions_74 fMo_61 rfl rfl (by cases sw <;> rfl) ?_
  refine QW.iload_n dMo_readConditions_77 rfl rfl ?_
  refine QW.aload_n dMo_readConditions_78 rfl rfl ?_
  exact MW.calV (as := []) (rest := [.int a3, .ref 209]) hX dMo_readConditions_79 eMo_value lMo_160 iMo_value vMo_value rfl rfl rfl rfl rfl rfl (Nat.le_of_ble_eq_true rfl) rfl k1
theorem bMo_readConditions_82 {a1 : Int32} {a2 : Int32} {a3 : Int32} {s2 : Int32} {s1 : Int32} (hX : X.length = 13) (h1 : inx s1 90) (h2 : inx a3 90) (h3 : (0 ≤ ((mup mem 209 (Int32.toNatClampNeg s1) s2) 209 (Int32.toNatClampNeg a3))) → inx a1 15) (h4 : (0 ≤ ((mup mem 209 (Int32.toNatClampNeg s1) s2) 209 (Int32.toNatClampNeg a3))) → inx a1 15) (h5 : (0 ≤ ((mup mem 209 (Int32.toNatClampNeg s1) s2) 209 (Int32.toNatClampNeg a3))) → inx a1 15) (k6 : (0 ≤ ((mup mem 209 (Int32.toNatClampNeg s1) s2) 209 (Int32.toNatClampNeg a3))) → (6 ≤ ((mup (mup mem 209 (Int32.toNatClampNeg s1) s2) 207 (Int32.toNatClampNeg a1) (((mup mem 209 (Int32.toNatClampNeg s1) s2) 207 (Int32.toNatClampNeg a1)) + 1)) 207 (Int32.toNatClampNeg a1))) → QW (d + 1) mMo_readConditions 137 (lMo_readConditions_137 a1 a2 a3) [] (hpo X (mup (mup mem 209 (Int32.toNatClampNeg s1) s2) 207 (Int32.toNatClampNeg a1) (((mup mem 209 (Int32.toNatClampNeg s1) s2) 207 (Int32.toNatClampNeg a1)) + 1)) sw o e) P) (k7 : (0 ≤ ((mup mem 209 (Int32.toNatClampNeg s1) s2) 209 (Int32.toNatClampNeg a3))) → (¬ 6 ≤ ((mup (mup mem 209 (Int32.toNatClampNeg s1) s2) 207 (Int32.toNatClampNeg a1) (((mup mem 209 (Int32.toNatClampNeg s1) s2) 207 (Int32.toNatClampNeg a1)) + 1)) 207 (Int32.toNatClampNeg a1))) → QW d mMo_isWord 0 (qen 5 [.ref 193, .int 3, .int 97, .int 110, .int 100]) [] (hpo X (mup (mup mem 209 (Int32.toNatClampNeg s1) s2) 207 (Int32.toNatClampNeg a1) (((mup mem 209 (Int32.toNatClampNeg s1) s2) 207 (Int32.toNatClampNeg a1)) + 1)) sw o e) (qcl d mMo_readConditions 124 127 (lMo_readConditions_127 a1 a2 a3) [.ref 193] P)) (k8 : (¬ 0 ≤ ((mup mem 209 (Int32.toNatClampNeg s1) s2) 209 (Int32.toNatClampNeg a3))) → P (.inl (some (.int 0)), (hpo X (mup mem 209 (Int32.toNatClampNeg s1) s2) sw o e))) : QW (d + 1) mMo_readConditions 82 (lMo_readConditions_82 a1 a2 a3) [.int s2, .int s1, .ref 209] (hpo X mem sw o e) P := by
  show QW (d + 1) mMo_readConditions 82 [.val (.ref 193), .val (.int a1), .val (.int a2), .val (.int a3)] [.int s2, .int s1, .ref 209] (hpo X mem sw o e) P
  refine MW.iast hX dMo_readConditions_82 rfl h1.1 (rep_get h1.2) ?_
  refine QW.aload_n dMo_readConditions_83 rfl rfl ?_
  refine MW.getr (r' := 209) hX dMo_readConditions_84 fMo_61 rfl rfl (by cases sw <;> rfl) ?_
  refine QW.iload_n dMo_readConditions_87 rfl rfl ?_
  refine MW.iald hX dMo_readConditions_88 rfl h2.1 (rep_get h2.2) ?_
  refine QW.if_ge (tgt := 94) dMo_readConditions_89 (by decide) (fun z0 => ?_) (fun z0 => ?_)
  · refine QW.aload_n dMo_readConditions_94 rfl rfl ?_
    refine MW.getr (r' := 207) hX dMo_readConditions_95 fMo_55 rfl rfl (by cases sw <;> rfl) ?_
    refine QW.iload_n dMo_readConditions_98 rfl rfl ?_
    refine QW.dup2 dMo_readConditions_99 rfl rfl ?_
    refine MW.iald hX dMo_readConditions_100 rfl (h3 z0).1 (rep_get (h3 z0).2) ?_
    refine QW.iconst (v := 1) dMo_readConditions_101 (by decide) ?_
    refine QW.iadd dMo_readConditions_102 ?_
    refine MW.iast hX dMo_readConditions_103 rfl (h4 z0).1 (rep_get (h4 z0).2) ?_
    refine QW.aload_n dMo_readConditions_104 rfl rfl ?_
    refine MW.getr (r' := 207) hX dMo_readConditions_105 fMo_55 rfl rfl (by cases sw <;> rfl) ?_
    refine QW.iload_n dMo_readConditions_108 rfl rfl ?_
    refine MW.iald hX dMo_readConditions_109 rfl (h5 z0).1 (rep_get (h5 z0).2) ?_
    refine QW.bipush (v := 6) dMo_readConditions_110 (by decide) ?_
    refine QW.icmp_ge (tgt := 137) dMo_readConditions_112 (by decide) (fun z1 => ?_) (fun z1 => ?_)
    · exact (k6 z0 z1)
    · refine QW.aload_n dMo_readConditions_115 rfl rfl ?_
      refine QW.aload_n dMo_readConditions_116 rfl rfl ?_
      refine QW.iconst (v := 3) dMo_readConditions_117 (by decide) ?_
      refine QW.bipush (v := 97) dMo_readConditions_118 (by decide) ?_
      refine QW.bipush (v := 110) dMo_readConditions_120 (by decide) ?_
      refine QW.bipush (v := 100) dMo_readConditions_122 (by decide) ?_
      exact MW.calV (as := [.int 3, .int 97, .int 110, .int 100]) (rest := [.ref 193]) hX dMo_readConditions_124 eMo_isWord lMo_168 iMo_isWord vMo_isWord rfl rfl rfl rfl rfl rfl (Nat.le_of_ble_eq_true rfl) rfl (k7 z0 z1)
  · refine QW.iconst (v := 0) dMo_readConditions_92 (by decide) ?_
    exact QW.iret dMo_readConditions_93 rfl rfl (k8 z0)
theorem bMo_readConditions_127 {a1 : Int32} {a2 : Int32} {a3 : Int32} {s1 : Int32} (hX : X.length = 13) (k1 : QW d mMo_passesWord 0 (qen 2 [.ref 193, .int s1]) [] (hpo X mem sw o e) (qcl d mMo_readConditions 127 130 (lMo_readConditions_130 a1 a2 a3) [] P)) : QW (d + 1) mMo_readConditions 127 (lMo_readConditions_127 a1 a2 a3) [.int s1, .ref 193] (hpo X mem sw o e) P := by
  show QW (d + 1) mMo_readConditions 127 [.val (.ref 193), .val (.int a1), .val (.int a2), .val (.int a3)] [.int s1, .ref 193] (hpo X mem sw o e) P
  exact MW.calV (as := [.int s1]) (rest := []) hX dMo_readConditions_127 eMo_passesWord lMo_172 iMo_passesWord vMo_passesWord rfl rfl rfl rfl rfl rfl (Nat.le_of_ble_eq_true rfl) rfl k1
theorem bMo_readConditions_130 {a1 : Int32} {a2 : Int32} {a3 : Int32} {s0 : Int32} (hX : X.length = 13) (k1 : (s0 = 0) → QW d mMo_readConditions 137 (lMo_readConditions_137 a1 a2 a3) [] (hpo X mem sw o e) P) (k2 : (¬ s0 = 0) → QW d mMo_readConditions 138 (lMo_readConditions_138 a1 a2 a3) [.int 1] (hpo X mem sw o e) P) : QW d mMo_readConditions 130 (lMo_readConditions_130 a1 a2 a3) [.int s0] (hpo X mem sw o e) P := by
  show QW d mMo_readConditions 130 [.val (.ref 193), .val (.int a1), .val (.int a2), .val (.int a3)] [.int s0] (hpo X mem sw o e) P
  refine QW.if_eq (tgt := 137) dMo_readConditions_130 (by decide) (fun z0 => ?_) (fun z0 => ?_)
  · exact (k1 z0)
  · refine QW.iconst (v := 1) dMo_readConditions_133 (by decide) ?_
    refine QW.goto (tgt := 138) dMo_readConditions_134 (by decide) ?_
    exact (k2 z0)
theorem bMo_readConditions_137 {a1 : Int32} {a2 : Int32} {a3 : Int32} (hX : X.length = 13) (k1 : QW d mMo_readConditions 138 (lMo_readConditions_138 a1 a2 a3) [.int 0] (hpo X mem sw o e) P) : QW d mMo_readConditions 137 (lMo_readConditions_137 a1 a2 a3) [] (hpo X mem sw o e) P := by
  show QW d mMo_readConditions 137 [.val (.ref 193), .val (.int a1), .val (.int a2), .val (.int a3)] [] (hpo X mem sw o e) P
  refine QW.iconst (v := 0) dMo_readConditions_137 (by decide) ?_
  exact k1
theorem bMo_readConditions_138 {a1 : Int32} {a2 : Int32} {a3 : Int32} {s0 : Int32} (hX : X.length = 13) (k1 : QW d mMo_readConditions 2 (lMo_readConditions_2 a1 s0 (.val (.int a3))) [] (hpo X mem sw o e) P) : QW d mMo_readConditions 138 (lMo_readConditions_138 a1 a2 a3) [.int s0] (hpo X mem sw o e) P := by
  show QW d mMo_readConditions 138 [.val (.ref 193), .val (.int a1), .val (.int a2), .val (.int a3)] [.int s0] (hpo X mem sw o e) P
  refine QW.istore_n (ls' := [.val (.ref 193), .val (.int a1), .val (.int s0), .val (.int a3)]) dMo_readConditions_138 rfl rfl ?_
  refine QW.goto (tgt := 2) dMo_readConditions_139 (by decide) ?_
  exact k1
theorem dMo_readBlock_0 : decode mMo_readBlock.2.1 0 = .ok (.aload_n 0, 1) := by decide +kernel
theorem dMo_readBlock_1 : decode mMo_readBlock.2.1 1 = .ok (.getfield 55, 3) := by decide +kernel
theorem dMo_readBlock_4 : decode mMo_readBlock.2.1 4 = .ok (.iload_n 1, 1) := by decide +kernel
theorem dMo_readBlock_5 : decode mMo_readBlock.2.1 5 = .ok (.iconst 0, 1) := by decide +kernel
theorem dMo_readBlock_6 : decode mMo_readBlock.2.1 6 = .ok (.iastore, 1) := by decide +kernel
theorem dMo_readBlock_7 : decode mMo_readBlock.2.1 7 = .ok (.aload_n 0, 1) := by decide +kernel
theorem dMo_readBlock_8 : decode mMo_readBlock.2.1 8 = .ok (.getfield 37, 3) := by decide +kernel
theorem dMo_readBlock_11 : decode mMo_readBlock.2.1 11 = .ok (.iload_n 1, 1) := by decide +kernel
theorem dMo_readBlock_12 : decode mMo_readBlock.2.1 12 = .ok (.aload_n 0, 1) := by decide +kernel
theorem dMo_readBlock_13 : decode mMo_readBlock.2.1 13 = .ok (.aload_n 0, 1) := by decide +kernel
theorem dMo_readBlock_14 : decode mMo_readBlock.2.1 14 = .ok (.iconst 3, 1) := by decide +kernel
theorem dMo_readBlock_15 : decode mMo_readBlock.2.1 15 = .ok (.bipush 115, 2) := by decide +kernel
theorem dMo_readBlock_17 : decode mMo_readBlock.2.1 17 = .ok (.bipush 101, 2) := by decide +kernel
theorem dMo_readBlock_19 : decode mMo_readBlock.2.1 19 = .ok (.bipush 116, 2) := by decide +kernel
theorem dMo_readBlock_21 : decode mMo_readBlock.2.1 21 = .ok (.invokevirtual 168, 3) := by decide +kernel
theorem dMo_readBlock_24 : decode mMo_readBlock.2.1 24 = .ok (.invokevirtual 172, 3) := by decide +kernel
theorem dMo_readBlock_27 : decode mMo_readBlock.2.1 27 = .ok (.bastore, 1) := by decide +kernel
theorem dMo_readBlock_28 : decode mMo_readBlock.2.1 28 = .ok (.aload_n 0, 1) := by decide +kernel
theorem dMo_readBlock_29 : decode mMo_readBlock.2.1 29 = .ok (.aload_n 0, 1) := by decide +kernel
theorem dMo_readBlock_30 : decode mMo_readBlock.2.1 30 = .ok (.iconst 3, 1) := by decide +kernel
theorem dMo_readBlock_31 : decode mMo_readBlock.2.1 31 = .ok (.bipush 111, 2) := by decide +kernel
theorem dMo_readBlock_33 : decode mMo_readBlock.2.1 33 = .ok (.bipush 117, 2) := by decide +kernel
theorem dMo_readBlock_35 : decode mMo_readBlock.2.1 35 = .ok (.bipush 116, 2) := by decide +kernel
theorem dMo_readBlock_37 : decode mMo_readBlock.2.1 37 = .ok (.invokevirtual 168, 3) := by decide +kernel
theorem dMo_readBlock_40 : decode mMo_readBlock.2.1 40 = .ok (.invokevirtual 172, 3) := by decide +kernel
theorem dMo_readBlock_43 : decode mMo_readBlock.2.1 43 = .ok (.ifCond .eq 11, 3) := by decide +kernel
theorem dMo_readBlock_46 : decode mMo_readBlock.2.1 46 = .ok (.aload_n 0, 1) := by decide +kernel
theorem dMo_readBlock_47 : decode mMo_readBlock.2.1 47 = .ok (.iload_n 1, 1) := by decide +kernel
theorem dMo_readBlock_48 : decode mMo_readBlock.2.1 48 = .ok (.invokevirtual 176, 3) := by decide +kernel
theorem dMo_readBlock_51 : decode mMo_readBlock.2.1 51 = .ok (.ifCond .ne 5, 3) := by decide +kernel
theorem dMo_readBlock_54 : decode mMo_readBlock.2.1 54 = .ok (.iconst 0, 1) := by decide +kernel
theorem dMo_readBlock_55 : decode mMo_readBlock.2.1 55 = .ok (.ireturn, 1) := by decide +kernel
theorem dMo_readBlock_56 : decode mMo_readBlock.2.1 56 = .ok (.aload_n 0, 1) := by decide +kernel
theorem dMo_readBlock_57 : decode mMo_readBlock.2.1 57 = .ok (.aload_n 0, 1) := by decide +kernel
theorem dMo_readBlock_58 : decode mMo_readBlock.2.1 58 = .ok (.iconst 2, 1) := by decide +kernel
theorem dMo_readBlock_59 : decode mMo_readBlock.2.1 59 = .ok (.bipush 111, 2) := by decide +kernel
theorem dMo_readBlock_61 : decode mMo_readBlock.2.1 61 = .ok (.bipush 102, 2) := by decide +kernel
theorem dMo_readBlock_63 : decode mMo_readBlock.2.1 63 = .ok (.bipush 120, 2) := by decide +kernel
theorem dMo_readBlock_65 : decode mMo_readBlock.2.1 65 = .ok (.invokevirtual 168, 3) := by decide +kernel
theorem dMo_readBlock_68 : decode mMo_readBlock.2.1 68 = .ok (.invokevirtual 172, 3) := by decide +kernel
theorem dMo_readBlock_71 : decode mMo_readBlock.2.1 71 = .ok (.ifCond .eq 11, 3) := by decide +kernel
theorem dMo_readBlock_74 : decode mMo_readBlock.2.1 74 = .ok (.aload_n 0, 1) := by decide +kernel
theorem dMo_readBlock_75 : decode mMo_readBlock.2.1 75 = .ok (.iload_n 1, 1) := by decide +kernel
theorem dMo_readBlock_76 : decode mMo_readBlock.2.1 76 = .ok (.invokevirtual 179, 3) := by decide +kernel
theorem dMo_readBlock_79 : decode mMo_readBlock.2.1 79 = .ok (.ifCond .ne 5, 3) := by decide +kernel
theorem dMo_readBlock_82 : decode mMo_readBlock.2.1 82 = .ok (.iconst 0, 1) := by decide +kernel
theorem dMo_readBlock_83 : decode mMo_readBlock.2.1 83 = .ok (.ireturn, 1) := by decide +kernel
theorem dMo_readBlock_84 : decode mMo_readBlock.2.1 84 = .ok (.aload_n 0, 1) := by decide +kernel
theorem dMo_readBlock_85 : decode mMo_readBlock.2.1 85 = .ok (.aload_n 0, 1) := by decide +kernel
theorem dMo_readBlock_86 : decode mMo_readBlock.2.1 86 = .ok (.invokevirtual 182, 3) := by decide +kernel
theorem dMo_readBlock_89 : decode mMo_readBlock.2.1 89 = .ok (.invokevirtual 172, 3) := by decide +kernel
theorem dMo_readBlock_92 : decode mMo_readBlock.2.1 92 = .ok (.ifCond .eq 13, 3) := by decide +kernel
theorem dMo_readBlock_95 : decode mMo_readBlock.2.1 95 = .ok (.aload_n 0, 1) := by decide +kernel
theorem dMo_readBlock_96 : decode mMo_readBlock.2.1 96 = .ok (.iload_n 1, 1) := by decide +kernel
theorem dMo_readBlock_97 : decode mMo_readBlock.2.1 97 = .ok (.invokevirtual 186, 3) := by decide +kernel
theorem dMo_readBlock_100 : decode mMo_readBlock.2.1 100 = .ok (.ifCond .ne 5, 3) := by decide +kernel
theorem dMo_readBlock_103 : decode mMo_readBlock.2.1 103 = .ok (.iconst 0, 1) := by decide +kernel
theorem dMo_readBlock_104 : decode mMo_readBlock.2.1 104 = .ok (.ireturn, 1) := by decide +kernel
theorem dMo_readBlock_105 : decode mMo_readBlock.2.1 105 = .ok (.aload_n 0, 1) := by decide +kernel
theorem dMo_readBlock_106 : decode mMo_readBlock.2.1 106 = .ok (.getfield 135, 3) := by decide +kernel
theorem dMo_readBlock_109 : decode mMo_readBlock.2.1 109 = .ok (.ifCond .eq 30, 3) := by decide +kernel
theorem dMo_readBlock_112 : decode mMo_readBlock.2.1 112 = .ok (.aload_n 0, 1) := by decide +kernel
theorem dMo_readBlock_113 : decode mMo_readBlock.2.1 113 = .ok (.bipush 43, 2) := by decide +kernel
theorem dMo_readBlock_115 : decode mMo_readBlock.2.1 115 = .ok (.invokevirtual 151, 3) := by decide +kernel
theorem dMo_readBlock_118 : decode mMo_readBlock.2.1 118 = .ok (.ifCond .ne 21, 3) := by decide +kernel
theorem dMo_readBlock_121 : decode mMo_readBlock.2.1 121 = .ok (.aload_n 0, 1) := by decide +kernel
theorem dMo_readBlock_122 : decode mMo_readBlock.2.1 122 = .ok (.bipush 45, 2) := by decide +kernel
theorem dMo_readBlock_124 : decode mMo_readBlock.2.1 124 = .ok (.invokevirtual 151, 3) := by decide +kernel
theorem dMo_readBlock_127 : decode mMo_readBlock.2.1 127 = .ok (.ifCond .ne 12, 3) := by decide +kernel
theorem dMo_readBlock_130 : decode mMo_readBlock.2.1 130 = .ok (.aload_n 0, 1) := by decide +kernel
theorem dMo_readBlock_131 : decode mMo_readBlock.2.1 131 = .ok (.bipush 94, 2) := by decide +kernel
theorem dMo_readBlock_133 : decode mMo_readBlock.2.1 133 = .ok (.invokevirtual 151, 3) := by decide +kernel
theorem dMo_readBlock_136 : decode mMo_readBlock.2.1 136 = .ok (.ifCond .eq 7, 3) := by decide +kernel
theorem dMo_readBlock_139 : decode mMo_readBlock.2.1 139 = .ok (.iconst 1, 1) := by decide +kernel
theorem dMo_readBlock_140 : decode mMo_readBlock.2.1 140 = .ok (.goto 4, 3) := by decide +kernel
theorem dMo_readBlock_143 : decode mMo_readBlock.2.1 143 = .ok (.iconst 0, 1) := by decide +kernel
theorem dMo_readBlock_144 : decode mMo_readBlock.2.1 144 = .ok (.ireturn, 1) := by decide +kernel
def lMo_readBlock_24 (a1 : Int32) : List Slot := [.val (.ref 193), .val (.int a1)]
def lMo_readBlock_27 (a1 : Int32) : List Slot := [.val (.ref 193), .val (.int a1)]
def lMo_readBlock_40 (a1 : Int32) : List Slot := [.val (.ref 193), .val (.int a1)]
def lMo_readBlock_43 (a1 : Int32) : List Slot := [.val (.ref 193), .val (.int a1)]
def lMo_readBlock_51 (a1 : Int32) : List Slot := [.val (.ref 193), .val (.int a1)]
def lMo_readBlock_68 (a1 : Int32) : List Slot := [.val (.ref 193), .val (.int a1)]
def lMo_readBlock_71 (a1 : Int32) : List Slot := [.val (.ref 193), .val (.int a1)]
def lMo_readBlock_79 (a1 : Int32) : List Slot := [.val (.ref 193), .val (.int a1)]
def lMo_readBlock_89 (a1 : Int32) : List Slot := [.val (.ref 193), .val (.int a1)]
def lMo_readBlock_92 (a1 : Int32) : List Slot := [.val (.ref 193), .val (.int a1)]
def lMo_readBlock_100 (a1 : Int32) : List Slot := [.val (.ref 193), .val (.int a1)]
def lMo_readBlock_105 (a1 : Int32) : List Slot := [.val (.ref 193), .val (.int a1)]
def lMo_readBlock_118 (a1 : Int32) : List Slot := [.val (.ref 193), .val (.int a1)]
def lMo_readBlock_127 (a1 : Int32) : List Slot := [.val (.ref 193), .val (.int a1)]
def lMo_readBlock_136 (a1 : Int32) : List Slot := [.val (.ref 193), .val (.int a1)]
def lMo_readBlock_139 (a1 : Int32) : List Slot := [.val (.ref 193), .val (.int a1)]
theorem bMo_readBlock_0 {a1 : Int32} (hX : X.length = 13) (h1 : inx a1 15) (k2 : QW d mMo_isWord 0 (qen 5 [.ref 193, .int 3, .int 115, .int 101, .int 116]) [] (hpo X (mup mem 207 (Int32.toNatClampNeg a1) 0) sw o e) (qcl d mMo_readBlock 21 24 (lMo_readBlock_24 a1) [.ref 193, .int a1, .ref 201] P)) : QW (d + 1) mMo_readBlock 0 (qen 2 [.ref 193, .int a1]) [] (hpo X mem sw o e) P := by
  show QW (d + 1) mMo_readBlock 0 [.val (.ref 193), .val (.int a1)] [] (hpo X mem sw o e) P
  refine QW.aload_n dMo_readBlock_0 rfl rfl ?_
  refine MW.getr (r' := 207) hX dMo_readBlock_1 fMo_55 rfl rfl (by cases sw <;> rfl) ?_
  refine QW.iload_n dMo_readBlock_4 rfl rfl ?_
  refine QW.iconst (v := 0) dMo_readBlock_5 (by decide) ?_
  refine MW.iast hX dMo_readBlock_6 rfl h1.1 (rep_get h1.2) ?_
  refine QW.aload_n dMo_readBlock_7 rfl rfl ?_
  refine MW.getr (r' := 201) hX dMo_readBlock_8 fMo_37 rfl rfl (by cases sw <;> rfl) ?_
  refine QW.iload_n dMo_readBlock_11 rfl rfl ?_
  refine QW.aload_n dMo_readBlock_12 rfl rfl ?_
  refine QW.aload_n dMo_readBlock_13 rfl rfl ?_
  refine QW.iconst (v := 3) dMo_readBlock_14 (by decide) ?_
  refine QW.bipush (v := 115) dMo_readBlock_15 (by decide) ?_
  refine QW.bipush (v := 101) dMo_readBlock_17 (by decide) ?_
  refine QW.bipush (v := 116) dMo_readBlock_19 (by decide) ?_
  exact MW.calV (as := [.int 3, .int 115, .int 101, .int 116]) (rest := [.ref 193, .int a1, .ref 201]) hX dMo_readBlock_21 eMo_isWord lMo_168 iMo_isWord vMo_isWord rfl rfl rfl rfl rfl rfl (Nat.le_of_ble_eq_true rfl) rfl k2
theorem bMo_readBlock_24 {a1 : Int32} {s3 : Int32} {s1 : Int32} (hX : X.length = 13) (k1 : QW d mMo_passesWord 0 (qen 2 [.ref 193, .int s3]) [] (hpo X mem sw o e) (qcl d mMo_readBlock 24 27 (lMo_readBlock_27 a1) [.int s1, .ref 201] P)) : QW (d + 1) mMo_readBlock 24 (lMo_readBlock_24 a1) [.int s3, .ref 193, .int s1, .ref 201] (hpo X mem sw o e) P := by
  show QW (d + 1) mMo_readBlock 24 [.val (.ref 193), .val (.int a1)] [.int s3, .ref 193, .int s1, .ref 201] (hpo X mem sw o e) P
  exact MW.calV (as := [.int s3]) (rest := [.int s1, .ref 201]) hX dMo_readBlock_24 eMo_passesWord lMo_172 iMo_passesWord vMo_passesWord rfl rfl rfl rfl rfl rfl (Nat.le_of_ble_eq_true rfl) rfl k1
theorem bMo_readBlock_27 {a1 : Int32} {s2 : Int32} {s1 : Int32} (hX : X.length = 13) (h1 : inx s1 15) (h2 : narrow .boolean (.int s2) = .int s2) (k3 : QW d mMo_isWord 0 (qen 5 [.ref 193, .int 3, .int 111, .int 117, .int 116]) [] (hpo X (mup mem 201 (Int32.toNatClampNeg s1) s2) sw o e) (qcl d mMo_readBlock 37 40 (lMo_readBlock_40 a1) [.ref 193] P)) : QW (d + 1) mMo_readBlock 27 (lMo_readBlock_27 a1) [.int s2, .int s1, .ref 201] (hpo X mem sw o e) P := by
  show QW (d + 1) mMo_readBlock 27 [.val (.ref 193), .val (.int a1)] [.int s2, .int s1, .ref 201] (hpo X mem sw o e) P
  refine MW.zast hX dMo_readBlock_27 rfl h1.1 (rep_get h1.2) h2 ?_
  refine QW.aload_n dMo_readBlock_28 rfl rfl ?_
  refine QW.aload_n dMo_readBlock_29 rfl rfl ?_
  refine QW.iconst (v := 3) dMo_readBlock_30 (by decide) ?_
  refine QW.bipush (v := 111) dMo_readBlock_31 (by decide) ?_
  refine QW.bipush (v := 117) dMo_readBlock_33 (by decide) ?_
  refine QW.bipush (v := 116) dMo_readBlock_35 (by decide) ?_
  exact MW.calV (as := [.int 3, .int 111, .int 117, .int 116]) (rest := [.ref 193]) hX dMo_readBlock_37 eMo_isWord lMo_168 iMo_isWord vMo_isWord rfl rfl rfl rfl rfl rfl (Nat.le_of_ble_eq_true rfl) rfl k3
theorem bMo_readBlock_40 {a1 : Int32} {s1 : Int32} (hX : X.length = 13) (k1 : QW d mMo_passesWord 0 (qen 2 [.ref 193, .int s1]) [] (hpo X mem sw o e) (qcl d mMo_readBlock 40 43 (lMo_readBlock_43 a1) [] P)) : QW (d + 1) mMo_readBlock 40 (lMo_readBlock_40 a1) [.int s1, .ref 193] (hpo X mem sw o e) P := by
  show QW (d + 1) mMo_readBlock 40 [.val (.ref 193), .val (.int a1)] [.int s1, .ref 193] (hpo X mem sw o e) P
  exact MW.calV (as := [.int s1]) (rest := []) hX dMo_readBlock_40 eMo_passesWord lMo_172 iMo_passesWord vMo_passesWord rfl rfl rfl rfl rfl rfl (Nat.le_of_ble_eq_true rfl) rfl k1
theorem bMo_readBlock_43 {a1 : Int32} {s0 : Int32} (hX : X.length = 13) (k1 : (s0 = 0) → P (.inl (some (.int 0)), (hpo X mem sw o e))) (k2 : (¬ s0 = 0) → QW d mMo_readOutputs 0 (qen 4 [.ref 193, .int a1]) [] (hpo X mem sw o e) (qcl d mMo_readBlock 48 51 (lMo_readBlock_51 a1) [] P)) : QW (d + 1) mMo_readBlock 43 (lMo_readBlock_43 a1) [.int s0] (hpo X mem sw o e) P := by
  show QW (d + 1) mMo_readBlock 43 [.val (.ref 193), .val (.int a1)] [.int s0] (hpo X mem sw o e) P
  refine QW.if_eq (tgt := 54) dMo_readBlock_43 (by decide) (fun z0 => ?_) (fun z0 => ?_)
  · refine QW.iconst (v := 0) dMo_readBlock_54 (by decide) ?_
    exact QW.iret dMo_readBlock_55 rfl rfl (k1 z0)
  · refine QW.aload_n dMo_readBlock_46 rfl rfl ?_
    refine QW.iload_n dMo_readBlock_47 rfl rfl ?_
    exact MW.calV (as := [.int a1]) (rest := []) hX dMo_readBlock_48 eMo_readOutputs lMo_176 iMo_readOutputs vMo_readOutputs rfl rfl rfl rfl rfl rfl (Nat.le_of_ble_eq_true rfl) rfl (k2 z0)
theorem bMo_readBlock_51 {a1 : Int32} {s0 : Int32} (hX : X.length = 13) (k1 : (¬ s0 = 0) → QW d mMo_isWord 0 (qen 5 [.ref 193, .int 2, .int 111, .int 102, .int 120]) [] (hpo X mem sw o e) (qcl d mMo_readBlock 65 68 (lMo_readBlock_68 a1) [.ref 193] P)) (k2 : (s0 = 0) → P (.inl (some (.int 0)), (hpo X mem sw o e))) : QW (d + 1) mMo_readBlock 51 (lMo_readBlock_51 a1) [.int s0] (hpo X mem sw o e) P := by
  show QW (d + 1) mMo_readBlock 51 [.val (.ref 193), .val (.int a1)] [.int s0] (hpo X mem sw o e) P
  refine QW.if_ne (tgt := 56) dMo_readBlock_51 (by decide) (fun z0 => ?_) (fun z0 => ?_)
  · refine QW.aload_n dMo_readBlock_56 rfl rfl ?_
    refine QW.aload_n dMo_readBlock_57 rfl rfl ?_
    refine QW.iconst (v := 2) dMo_readBlock_58 (by decide) ?_
    refine QW.bipush (v := 111) dMo_readBlock_59 (by decide) ?_
    refine QW.bipush (v := 102) dMo_readBlock_61 (by decide) ?_
    refine QW.bipush (v := 120) dMo_readBlock_63 (by decide) ?_
    exact MW.calV (as := [.int 2, .int 111, .int 102, .int 120]) (rest := [.ref 193]) hX dMo_readBlock_65 eMo_isWord lMo_168 iMo_isWord vMo_isWord rfl rfl rfl rfl rfl rfl (Nat.le_of_ble_eq_true rfl) rfl (k1 z0)
  · refine QW.iconst (v := 0) dMo_readBlock_54 (by decide) ?_
    exact QW.iret dMo_readBlock_55 rfl rfl (k2 z0)
theorem bMo_readBlock_68 {a1 : Int32} {s1 : Int32} (hX : X.length = 13) (k1 : QW d mMo_passesWord 0 (qen 2 [.ref 193, .int s1]) [] (hpo X mem sw o e) (qcl d mMo_readBlock 68 71 (lMo_readBlock_71 a1) [] P)) : QW (d + 1) mMo_readBlock 68 (lMo_readBlock_68 a1) [.int s1, .ref 193] (hpo X mem sw o e) P := by
  show QW (d + 1) mMo_readBlock 68 [.val (.ref 193), .val (.int a1)] [.int s1, .ref 193] (hpo X mem sw o e) P
  exact MW.calV (as := [.int s1]) (rest := []) hX dMo_readBlock_68 eMo_passesWord lMo_172 iMo_passesWord vMo_passesWord rfl rfl rfl rfl rfl rfl (Nat.le_of_ble_eq_true rfl) rfl k1
theorem bMo_readBlock_71 {a1 : Int32} {s0 : Int32} (hX : X.length = 13) (k1 : (s0 = 0) → P (.inl (some (.int 0)), (hpo X mem sw o e))) (k2 : (¬ s0 = 0) → QW d mMo_readSources 0 (qen 3 [.ref 193, .int a1]) [] (hpo X mem sw o e) (qcl d mMo_readBlock 76 79 (lMo_readBlock_79 a1) [] P)) : QW (d + 1) mMo_readBlock 71 (lMo_readBlock_71 a1) [.int s0] (hpo X mem sw o e) P := by
  show QW (d + 1) mMo_readBlock 71 [.val (.ref 193), .val (.int a1)] [.int s0] (hpo X mem sw o e) P
  refine QW.if_eq (tgt := 82) dMo_readBlock_71 (by decide) (fun z0 => ?_) (fun z0 => ?_)
  · refine QW.iconst (v := 0) dMo_readBlock_82 (by decide) ?_
    exact QW.iret dMo_readBlock_83 rfl rfl (k1 z0)
  · refine QW.aload_n dMo_readBlock_74 rfl rfl ?_
    refine QW.iload_n dMo_readBlock_75 rfl rfl ?_
    exact MW.calV (as := [.int a1]) (rest := []) hX dMo_readBlock_76 eMo_readSources lMo_179 iMo_readSources vMo_readSources rfl rfl rfl rfl rfl rfl (Nat.le_of_ble_eq_true rfl) rfl (k2 z0)
theorem bMo_readBlock_79 {a1 : Int32} {s0 : Int32} (hX : X.length = 13) (k1 : (¬ s0 = 0) → QW d mMo_isWhere 0 (qen 1 [.ref 193]) [] (hpo X mem sw o e) (qcl d mMo_readBlock 86 89 (lMo_readBlock_89 a1) [.ref 193] P)) (k2 : (s0 = 0) → P (.inl (some (.int 0)), (hpo X mem sw o e))) : QW (d + 1) mMo_readBlock 79 (lMo_readBlock_79 a1) [.int s0] (hpo X mem sw o e) P := by
  show QW (d + 1) mMo_readBlock 79 [.val (.ref 193), .val (.int a1)] [.int s0] (hpo X mem sw o e) P
  refine QW.if_ne (tgt := 84) dMo_readBlock_79 (by decide) (fun z0 => ?_) (fun z0 => ?_)
  · refine QW.aload_n dMo_readBlock_84 rfl rfl ?_
    refine QW.aload_n dMo_readBlock_85 rfl rfl ?_
    exact MW.calV (as := []) (rest := [.ref 193]) hX dMo_readBlock_86 eMo_isWhere lMo_182 iMo_isWhere vMo_isWhere rfl rfl rfl rfl rfl rfl (Nat.le_of_ble_eq_true rfl) rfl (k1 z0)
  · refine QW.iconst (v := 0) dMo_readBlock_82 (by decide) ?_
    exact QW.iret dMo_readBlock_83 rfl rfl (k2 z0)
theorem bMo_readBlock_89 {a1 : Int32} {s1 : Int32} (hX : X.length = 13) (k1 : QW d mMo_passesWord 0 (qen 2 [.ref 193, .int s1]) [] (hpo X mem sw o e) (qcl d mMo_readBlock 89 92 (lMo_readBlock_92 a1) [] P)) : QW (d + 1) mMo_readBlock 89 (lMo_readBlock_89 a1) [.int s1, .ref 193] (hpo X mem sw o e) P := by
  show QW (d + 1) mMo_readBlock 89 [.val (.ref 193), .val (.int a1)] [.int s1, .ref 193] (hpo X mem sw o e) P
  exact MW.calV (as := [.int s1]) (rest := []) hX dMo_readBlock_89 eMo_passesWord lMo_172 iMo_passesWord vMo_passesWord rfl rfl rfl rfl rfl rfl (Nat.le_of_ble_eq_true rfl) rfl k1
theorem bMo_readBlock_92 {a1 : Int32} {s0 : Int32} (hX : X.length = 13) (k1 : (s0 = 0) → QW (d + 1) mMo_readBlock 105 (lMo_readBlock_105 a1) [] (hpo X mem sw o e) P) (k2 : (¬ s0 = 0) → QW d mMo_readConditions 0 (qen 4 [.ref 193, .int a1]) [] (hpo X mem sw o e) (qcl d mMo_readBlock 97 100 (lMo_readBlock_100 a1) [] P)) : QW (d + 1) mMo_readBlock 92 (lMo_readBlock_92 a1) [.int s0] (hpo X mem sw o e) P := by
  show QW (d + 1) mMo_readBlock 92 [.val (.ref 193), .val (.int a1)] [.int s0] (hpo X mem sw o e) P
  refine QW.if_eq (tgt := 105) dMo_readBlock_92 (by decide) (fun z0 => ?_) (fun z0 => ?_)
  · exact (k1 z0)
  · refine QW.aload_n dMo_readBlock_95 rfl rfl ?_
    refine QW.iload_n dMo_readBlock_96 rfl rfl ?_
    exact MW.calV (as := [.int a1]) (rest := []) hX dMo_readBlock_97 eMo_readConditions lMo_186 iMo_readConditions vMo_readConditions rfl rfl rfl rfl rfl rfl (Nat.le_of_ble_eq_true rfl) rfl (k2 z0)
theorem bMo_readBlock_100 {a1 : Int32} {s0 : Int32} (hX : X.length = 13) (k1 : (¬ s0 = 0) → QW d mMo_readBlock 105 (lMo_readBlock_105 a1) [] (hpo X mem sw o e) P) (k2 : (s0 = 0) → P (.inl (some (.int 0)), (hpo X mem sw o e))) : QW d mMo_readBlock 100 (lMo_readBlock_100 a1) [.int s0] (hpo X mem sw o e) P := by
  show QW d mMo_readBlock 100 [.val (.ref 193), .val (.int a1)] [.int s0] (hpo X mem sw o e) P
  refine QW.if_ne (tgt := 105) dMo_readBlock_100 (by decide) (fun z0 => ?_) (fun z0 => ?_)
  · exact (k1 z0)
  · refine QW.iconst (v := 0) dMo_readBlock_103 (by decide) ?_
    exact QW.iret dMo_readBlock_104 rfl rfl (k2 z0)
theorem bMo_readBlock_105 {a1 : Int32} (hX : X.length = 13) (k1 : ((mem 193 9) = 0) → QW (d + 1) mMo_readBlock 139 (lMo_readBlock_139 a1) [] (hpo X mem sw o e) P) (k2 : (¬ (mem 193 9) = 0) → QW d mMo_isIt 0 (qen 2 [.ref 193, .int 43]) [] (hpo X mem sw o e) (qcl d mMo_readBlock 115 118 (lMo_readBlock_118 a1) [] P)) : QW (d + 1) mMo_readBlock 105 (lMo_readBlock_105 a1) [] (hpo X mem sw o e) P := by
  show QW (d + 1) mMo_readBlock 105 [.val (.ref 193), .val (.int a1)] [] (hpo X mem sw o e) P
  refine QW.aload_n dMo_readBlock_105 rfl rfl ?_
  refine MW.geti hX dMo_readBlock_106 fMo_135 rfl rfl ?_
  refine QW.if_eq (tgt := 139) dMo_readBlock_109 (by decide) (fun z0 => ?_) (fun z0 => ?_)
  · exact (k1 z0)
  · refine QW.aload_n dMo_readBlock_112 rfl rfl ?_
    refine QW.bipush (v := 43) dMo_readBlock_113 (by decide) ?_
    exact MW.calV (as := [.int 43]) (rest := []) hX dMo_readBlock_115 eMo_isIt lMo_151 iMo_isIt vMo_isIt rfl rfl rfl rfl rfl rfl (Nat.le_of_ble_eq_true rfl) rfl (k2 z0)
theorem bMo_readBlock_118 {a1 : Int32} {s0 : Int32} (hX : X.length = 13) (k1 : (¬ s0 = 0) → QW (d + 1) mMo_readBlock 139 (lMo_readBlock_139 a1) [] (hpo X mem sw o e) P) (k2 : (s0 = 0) → QW d mMo_isIt 0 (qen 2 [.ref 193, .int 45]) [] (hpo X mem sw o e) (qcl d mMo_readBlock 124 127 (lMo_readBlock_127 a1) [] P)) : QW (d + 1) mMo_readBlock 118 (lMo_readBlock_118 a1) [.int s0] (hpo X mem sw o e) P := by
  show QW (d + 1) mMo_readBlock 118 [.val (.ref 193), .val (.int a1)] [.int s0] (hpo X mem sw o e) P
  refine QW.if_ne (tgt := 139) dMo_readBlock_118 (by decide) (fun z0 => ?_) (fun z0 => ?_)
  · exact (k1 z0)
  · refine QW.aload_n dMo_readBlock_121 rfl rfl ?_
    refine QW.bipush (v := 45) dMo_readBlock_122 (by decide) ?_
    exact MW.calV (as := [.int 45]) (rest := []) hX dMo_readBlock_124 eMo_isIt lMo_151 iMo_isIt vMo_isIt rfl rfl rfl rfl rfl rfl (Nat.le_of_ble_eq_true rfl) rfl (k2 z0)
theorem bMo_readBlock_127 {a1 : Int32} {s0 : Int32} (hX : X.length = 13) (k1 : (¬ s0 = 0) → QW (d + 1) mMo_readBlock 139 (lMo_readBlock_139 a1) [] (hpo X mem sw o e) P) (k2 : (s0 = 0) → QW d mMo_isIt 0 (qen 2 [.ref 193, .int 94]) [] (hpo X mem sw o e) (qcl d mMo_readBlock 133 136 (lMo_readBlock_136 a1) [] P)) : QW (d + 1) mMo_readBlock 127 (lMo_readBlock_127 a1) [.int s0] (hpo X mem sw o e) P := by
  show QW (d + 1) mMo_readBlock 127 [.val (.ref 193), .val (.int a1)] [.int s0] (hpo X mem sw o e) P
  refine QW.if_ne (tgt := 139) dMo_readBlock_127 (by decide) (fun z0 => ?_) (fun z0 => ?_)
  · exact (k1 z0)
  · refine QW.aload_n dMo_readBlock_130 rfl rfl ?_
    refine QW.bipush (v := 94) dMo_readBlock_131 (by decide) ?_
    exact MW.calV (as := [.int 94]) (rest := []) hX dMo_readBlock_133 eMo_isIt lMo_151 iMo_isIt vMo_isIt rfl rfl rfl rfl rfl rfl (Nat.le_of_ble_eq_true rfl) rfl (k2 z0)
theorem bMo_readBlock_136 {a1 : Int32} {s0 : Int32} (hX : X.length = 13) (k1 : (s0 = 0) → P (.inl (some (.int 0)), (hpo X mem sw o e))) (k2 : (¬ s0 = 0) → QW d mMo_readBlock 139 (lMo_readBlock_139 a1) [] (hpo X mem sw o e) P) : QW d mMo_readBlock 136 (lMo_readBlock_136 a1) [.int s0] (hpo X mem sw o e) P := by
  show QW d mMo_readBlock 136 [.val (.ref 193), .val (.int a1)] [.int s0] (hpo X mem sw o e) P
  refine QW.if_eq (tgt := 143) dMo_readBlock_136 (by decide) (fun z0 => ?_) (fun z0 => ?_)
  · refine QW.iconst (v := 0) dMo_readBlock_143 (by decide) ?_
    exact QW.iret dMo_readBlock_144 rfl rfl (k1 z0)
  · exact (k2 z0)
theorem bMo_readBlock_139 {a1 : Int32} (hX : X.length = 13) (k1 : P (.inl (some (.int 1)), (hpo X mem sw o e))) : QW d mMo_readBlock 139 (lMo_readBlock_139 a1) [] (hpo X mem sw o e) P := by
  show QW d mMo_readBlock 139 [.val (.ref 193), .val (.int a1)] [] (hpo X mem sw o e) P
  refine QW.iconst (v := 1) dMo_readBlock_139 (by decide) ?_
  refine QW.goto (tgt := 144) dMo_readBlock_140 (by decide) ?_
  exact QW.iret dMo_readBlock_144 rfl rfl k1
theorem dMo_resolved_0 : decode mMo_resolved.2.1 0 = .ok (.iload_n 2, 1) := by decide +kernel
theorem dMo_resolved_1 : decode mMo_resolved.2.1 1 = .ok (.sipush 10000, 3) := by decide +kernel
theorem dMo_resolved_4 : decode mMo_resolved.2.1 4 = .ok (.if_icmp .ge 5, 3) := by decide +kernel
theorem dMo_resolved_7 : decode mMo_resolved.2.1 7 = .ok (.iload_n 2, 1) := by decide +kernel
theorem dMo_resolved_8 : decode mMo_resolved.2.1 8 = .ok (.ireturn, 1) := by decide +kernel
theorem dMo_resolved_9 : decode mMo_resolved.2.1 9 = .ok (.iconst 0, 1) := by decide +kernel
theorem dMo_resolved_10 : decode mMo_resolved.2.1 10 = .ok (.istore_n 3, 1) := by decide +kernel
theorem dMo_resolved_11 : decode mMo_resolved.2.1 11 = .ok (.iload_n 3, 1) := by decide +kernel
theorem dMo_resolved_12 : decode mMo_resolved.2.1 12 = .ok (.aload_n 0, 1) := by decide +kernel
theorem dMo_resolved_13 : decode mMo_resolved.2.1 13 = .ok (.getfield 46, 3) := by decide +kernel
theorem dMo_resolved_16 : decode mMo_resolved.2.1 16 = .ok (.iload_n 1, 1) := by decide +kernel
theorem dMo_resolved_17 : decode mMo_resolved.2.1 17 = .ok (.iaload, 1) := by decide +kernel
theorem dMo_resolved_18 : decode mMo_resolved.2.1 18 = .ok (.if_icmp .ge 67, 3) := by decide +kernel
theorem dMo_resolved_21 : decode mMo_resolved.2.1 21 = .ok (.aload_n 0, 1) := by decide +kernel
theorem dMo_resolved_22 : decode mMo_resolved.2.1 22 = .ok (.getfield 52, 3) := by decide +kernel
theorem dMo_resolved_25 : decode mMo_resolved.2.1 25 = .ok (.iconst 4, 1) := by decide +kernel
theorem dMo_resolved_26 : decode mMo_resolved.2.1 26 = .ok (.iload_n 1, 1) := by decide +kernel
theorem dMo_resolved_27 : decode mMo_resolved.2.1 27 = .ok (.imul, 1) := by decide +kernel
theorem dMo_resolved_28 : decode mMo_resolved.2.1 28 = .ok (.iload_n 3, 1) := by decide +kernel
theorem dMo_resolved_29 : decode mMo_resolved.2.1 29 = .ok (.iadd, 1) := by decide +kernel
theorem dMo_resolved_30 : decode mMo_resolved.2.1 30 = .ok (.iaload, 1) := by decide +kernel
theorem dMo_resolved_31 : decode mMo_resolved.2.1 31 = .ok (.iload_n 2, 1) := by decide +kernel
theorem dMo_resolved_32 : decode mMo_resolved.2.1 32 = .ok (.sipush 1000, 3) := by decide +kernel
theorem dMo_resolved_35 : decode mMo_resolved.2.1 35 = .ok (.idiv, 1) := by decide +kernel
theorem dMo_resolved_36 : decode mMo_resolved.2.1 36 = .ok (.bipush 10, 2) := by decide +kernel
theorem dMo_resolved_38 : decode mMo_resolved.2.1 38 = .ok (.isub, 1) := by decide +kernel
theorem dMo_resolved_39 : decode mMo_resolved.2.1 39 = .ok (.if_icmp .ne 40, 3) := by decide +kernel
theorem dMo_resolved_42 : decode mMo_resolved.2.1 42 = .ok (.iload_n 2, 1) := by decide +kernel
theorem dMo_resolved_43 : decode mMo_resolved.2.1 43 = .ok (.sipush 1000, 3) := by decide +kernel
theorem dMo_resolved_46 : decode mMo_resolved.2.1 46 = .ok (.irem, 1) := by decide +kernel
theorem dMo_resolved_47 : decode mMo_resolved.2.1 47 = .ok (.aload_n 0, 1) := by decide +kernel
theorem dMo_resolved_48 : decode mMo_resolved.2.1 48 = .ok (.getfield 7, 3) := by decide +kernel
theorem dMo_resolved_51 : decode mMo_resolved.2.1 51 = .ok (.aload_n 0, 1) := by decide +kernel
theorem dMo_resolved_52 : decode mMo_resolved.2.1 52 = .ok (.getfield 49, 3) := by decide +kernel
theorem dMo_resolved_55 : decode mMo_resolved.2.1 55 = .ok (.iconst 4, 1) := by decide +kernel
theorem dMo_resolved_56 : decode mMo_resolved.2.1 56 = .ok (.iload_n 1, 1) := by decide +kernel
theorem dMo_resolved_57 : decode mMo_resolved.2.1 57 = .ok (.imul, 1) := by decide +kernel
theorem dMo_resolved_58 : decode mMo_resolved.2.1 58 = .ok (.iload_n 3, 1) := by decide +kernel
theorem dMo_resolved_59 : decode mMo_resolved.2.1 59 = .ok (.iadd, 1) := by decide +kernel
theorem dMo_resolved_60 : decode mMo_resolved.2.1 60 = .ok (.iaload, 1) := by decide +kernel
theorem dMo_resolved_61 : decode mMo_resolved.2.1 61 = .ok (.iaload, 1) := by decide +kernel
theorem dMo_resolved_62 : decode mMo_resolved.2.1 62 = .ok (.if_icmp .ge 15, 3) := by decide +kernel
theorem dMo_resolved_65 : decode mMo_resolved.2.1 65 = .ok (.iconst 3, 1) := by decide +kernel
theorem dMo_resolved_66 : decode mMo_resolved.2.1 66 = .ok (.iload_n 3, 1) := by decide +kernel
theorem dMo_resolved_67 : decode mMo_resolved.2.1 67 = .ok (.imul, 1) := by decide +kernel
theorem dMo_resolved_68 : decode mMo_resolved.2.1 68 = .ok (.iload_n 2, 1) := by decide +kernel
theorem dMo_resolved_69 : decode mMo_resolved.2.1 69 = .ok (.sipush 1000, 3) := by decide +kernel
theorem dMo_resolved_72 : decode mMo_resolved.2.1 72 = .ok (.irem, 1) := by decide +kernel
theorem dMo_resolved_73 : decode mMo_resolved.2.1 73 = .ok (.iadd, 1) := by decide +kernel
theorem dMo_resolved_74 : decode mMo_resolved.2.1 74 = .ok (.goto 4, 3) := by decide +kernel
theorem dMo_resolved_77 : decode mMo_resolved.2.1 77 = .ok (.iconst (-1), 1) := by decide +kernel
theorem dMo_resolved_78 : decode mMo_resolved.2.1 78 = .ok (.ireturn, 1) := by decide +kernel
theorem dMo_resolved_79 : decode mMo_resolved.2.1 79 = .ok (.iinc 3 1, 3) := by decide +kernel
theorem dMo_resolved_82 : decode mMo_resolved.2.1 82 = .ok (.goto (-71), 3) := by decide +kernel
theorem dMo_resolved_85 : decode mMo_resolved.2.1 85 = .ok (.iconst (-1), 1) := by decide +kernel
theorem dMo_resolved_86 : decode mMo_resolved.2.1 86 = .ok (.ireturn, 1) := by decide +kernel
def lMo_resolved_11 (a1 : Int32) (a2 : Int32) (a3 : Int32) : List Slot := [.val (.ref 193), .val (.int a1), .val (.int a2), .val (.int a3)]
theorem bMo_resolved_0 {a1 : Int32} {a2 : Int32} (hX : X.length = 13) (k1 : (10000 ≤ a2) → QW d mMo_resolved 11 (lMo_resolved_11 a1 a2 0) [] (hpo X mem sw o e) P) (k2 : (¬ 10000 ≤ a2) → P (.inl (some (.int a2)), (hpo X mem sw o e))) : QW d mMo_resolved 0 (qen 4 [.ref 193, .int a1, .int a2]) [] (hpo X mem sw o e) P := by
  show QW d mMo_resolved 0 [.val (.ref 193), .val (.int a1), .val (.int a2), .unset] [] (hpo X mem sw o e) P
  refine QW.iload_n dMo_resolved_0 rfl rfl ?_
  refine QW.sipush (v := 10000) dMo_resolved_1 (by decide) ?_
  refine QW.icmp_ge (tgt := 9) dMo_resolved_4 (by decide) (fun z0 => ?_) (fun z0 => ?_)
  · refine QW.iconst (v := 0) dMo_resolved_9 (by decide) ?_
    refine QW.istore_n (ls' := [.val (.ref 193), .val (.int a1), .val (.int a2), .val (.int 0)]) dMo_resolved_10 rfl rfl ?_
    exact (k1 z0)
  · refine QW.iload_n dMo_resolved_7 rfl rfl ?_
    exact QW.iret dMo_resolved_8 rfl rfl (k2 z0)
theorem bMo_resolved_11 {a1 : Int32} {a2 : Int32} {a3 : Int32} (hX : X.length = 13) (h1 : inx a1 15) (k2 : ((mem 204 (Int32.toNatClampNeg a1)) ≤ a3) → P (.inl (some (.int (-1))), (hpo X mem sw o e))) (h3 : (¬ (mem 204 (Int32.toNatClampNeg a1)) ≤ a3) → inx ((4 * a1) + a3) 60) (k4 : (¬ (mem 204 (Int32.toNatClampNeg a1)) ≤ a3) → (¬ (mem 206 (Int32.toNatClampNeg ((4 * a1) + a3))) = ((a2 / 1000) - 10)) → QW d mMo_resolved 11 (lMo_resolved_11 a1 a2 (a3 + 1)) [] (hpo X mem sw o e) P) (h5 : (¬ (mem 204 (Int32.toNatClampNeg a1)) ≤ a3) → ((mem 206 (Int32.toNatClampNeg ((4 * a1) + a3))) = ((a2 / 1000) - 10)) → inx ((4 * a1) + a3) 60) (h6 : (¬ (mem 204 (Int32.toNatClampNeg a1)) ≤ a3) → ((mem 206 (Int32.toNatClampNeg ((4 * a1) + a3))) = ((a2 / 1000) - 10)) → inx (mem 205 (Int32.toNatClampNeg ((4 * a1) + a3))) 4) (k7 : (¬ (mem 204 (Int32.toNatClampNeg a1)) ≤ a3) → ((mem 206 (Int32.toNatClampNeg ((4 * a1) + a3))) = ((a2 / 1000) - 10)) → ((mem 194 (Int32.toNatClampNeg (mem 205 (Int32.toNatClampNeg ((4 * a1) + a3))))) ≤ (a2 - a2 / 1000 * 1000)) → P (.inl (some (.int (-1))), (hpo X mem sw o e))) (k8 : (¬ (mem 204 (Int32.toNatClampNeg a1)) ≤ a3) → ((mem 206 (Int32.toNatClampNeg ((4 * a1) + a3))) = ((a2 / 1000) - 10)) → (¬ (mem 194 (Int32.toNatClampNeg (mem 205 (Int32.toNatClampNeg ((4 * a1) + a3))))) ≤ (a2 - a2 / 1000 * 1000)) → P (.inl (some (.int ((3 * a3) + (a2 - a2 / 1000 * 1000)))), (hpo X mem sw o e))) : QW d mMo_resolved 11 (lMo_resolved_11 a1 a2 a3) [] (hpo X mem sw o e) P := by
  show QW d mMo_resolved 11 [.val (.ref 193), .val (.int a1), .val (.int a2), .val (.int a3)] [] (hpo X mem sw o e) P
  refine QW.iload_n dMo_resolved_11 rfl rfl ?_
  refine QW.aload_n dMo_resolved_12 rfl rfl ?_
  refine MW.getr (r' := 204) hX dMo_resolved_13 fMo_46 rfl rfl (by cases sw <;> rfl) ?_
  refine QW.iload_n dMo_resolved_16 rfl rfl ?_
  refine MW.iald hX dMo_resolved_17 rfl h1.1 (rep_get h1.2) ?_
  refine QW.icmp_ge (tgt := 85) dMo_resolved_18 (by decide) (fun z0 => ?_) (fun z0 => ?_)
  · refine QW.iconst (v := (-1)) dMo_resolved_85 (by decide) ?_
    exact QW.iret dMo_resolved_86 rfl rfl (k2 z0)
  · refine QW.aload_n dMo_resolved_21 rfl rfl ?_
    refine MW.getr (r' := 206) hX dMo_resolved_22 fMo_52 rfl rfl (by cases sw <;> rfl) ?_
    refine QW.iconst (v := 4) dMo_resolved_25 (by decide) ?_
    refine QW.iload_n dMo_resolved_26 rfl rfl ?_
    refine QW.imul dMo_resolved_27 ?_
    refine QW.iload_n dMo_resolved_28 rfl rfl ?_
    refine QW.iadd dMo_resolved_29 ?_
    refine MW.iald hX dMo_resolved_30 rfl (h3 z0).1 (rep_get (h3 z0).2) ?_
    refine QW.iload_n dMo_resolved_31 rfl rfl ?_
    refine QW.sipush (v := 1000) dMo_resolved_32 (by decide) ?_
    refine QW.idiv dMo_resolved_35 (by decide) ?_
    refine QW.bipush (v := 10) dMo_resolved_36 (by decide) ?_
    refine QW.isub dMo_resolved_38 ?_
    refine QW.icmp_ne (tgt := 79) dMo_resolved_39 (by decide) (fun z1 => ?_) (fun z1 => ?_)
    · refine MW.iinc (c := 1) (ls' := [.val (.ref 193), .val (.int a1), .val (.int a2), .val (.int (a3 + 1))]) dMo_resolved_79 (by decide) rfl rfl ?_
      refine QW.goto (tgt := 11) dMo_resolved_82 (by decide) ?_
      exact (k4 z0 z1)
    · refine QW.iload_n dMo_resolved_42 rfl rfl ?_
      refine QW.sipush (v := 1000) dMo_resolved_43 (by decide) ?_
      refine QW.irem dMo_resolved_46 (by decide) ?_
      refine QW.aload_n dMo_resolved_47 rfl rfl ?_
      refine MW.getr (r' := 194) hX dMo_resolved_48 fMo_7 rfl rfl (by cases sw <;> rfl) ?_
      refine QW.aload_n dMo_resolved_51 rfl rfl ?_
      refine MW.getr (r' := 205) hX dMo_resolved_52 fMo_49 rfl rfl (by cases sw <;> rfl) ?_
      refine QW.iconst (v := 4) dMo_resolved_55 (by decide) ?_
      refine QW.iload_n dMo_resolved_56 rfl rfl ?_
      refine QW.imul dMo_resolved_57 ?_
      refine QW.iload_n dMo_resolved_58 rfl rfl ?_
      refine QW.iadd dMo_resolved_59 ?_
      refine MW.iald hX dMo_resolved_60 rfl (h5 z0 z1).1 (rep_get (h5 z0 z1).2) ?_
      refine MW.iald hX dMo_resolved_61 rfl (h6 z0 z1).1 (rep_get (h6 z0 z1).2) ?_
      refine QW.icmp_ge (tgt := 77) dMo_resolved_62 (by decide) (fun z2 => ?_) (fun z2 => ?_)
      · refine QW.iconst (v := (-1)) dMo_resolved_77 (by decide) ?_
        exact QW.iret dMo_resolved_78 rfl rfl (k7 z0 z1 z2)
      · refine QW.iconst (v := 3) dMo_resolved_65 (by decide) ?_
        refine QW.iload_n dMo_resolved_66 rfl rfl ?_
        refine QW.imul dMo_resolved_67 ?_
        refine QW.iload_n dMo_resolved_68 rfl rfl ?_
        refine QW.sipush (v := 1000) dMo_resolved_69 (by decide) ?_
        refine QW.irem dMo_resolved_72 (by decide) ?_
        refine QW.iadd dMo_resolved_73 ?_
        refine QW.goto (tgt := 78) dMo_resolved_74 (by decide) ?_
        exact QW.iret dMo_resolved_78 rfl rfl (k8 z0 z1 z2)
theorem dMo_resolve_0 : decode mMo_resolve.2.1 0 = .ok (.iconst 1, 1) := by decide +kernel
theorem dMo_resolve_1 : decode mMo_resolve.2.1 1 = .ok (.istore_n 2, 1) := by decide +kernel
theorem dMo_resolve_2 : decode mMo_resolve.2.1 2 = .ok (.iconst 3, 1) := by decide +kernel
theorem dMo_resolve_3 : decode mMo_resolve.2.1 3 = .ok (.iload_n 1, 1) := by decide +kernel
theorem dMo_resolve_4 : decode mMo_resolve.2.1 4 = .ok (.imul, 1) := by decide +kernel
theorem dMo_resolve_5 : decode mMo_resolve.2.1 5 = .ok (.istore_n 3, 1) := by decide +kernel
theorem dMo_resolve_6 : decode mMo_resolve.2.1 6 = .ok (.iload_n 3, 1) := by decide +kernel
theorem dMo_resolve_7 : decode mMo_resolve.2.1 7 = .ok (.iconst 3, 1) := by decide +kernel
theorem dMo_resolve_8 : decode mMo_resolve.2.1 8 = .ok (.iload_n 1, 1) := by decide +kernel
theorem dMo_resolve_9 : decode mMo_resolve.2.1 9 = .ok (.imul, 1) := by decide +kernel
theorem dMo_resolve_10 : decode mMo_resolve.2.1 10 = .ok (.aload_n 0, 1) := by decide +kernel
theorem dMo_resolve_11 : decode mMo_resolve.2.1 11 = .ok (.getfield 40, 3) := by decide +kernel
theorem dMo_resolve_14 : decode mMo_resolve.2.1 14 = .ok (.iload_n 1, 1) := by decide +kernel
theorem dMo_resolve_15 : decode mMo_resolve.2.1 15 = .ok (.iaload, 1) := by decide +kernel
theorem dMo_resolve_16 : decode mMo_resolve.2.1 16 = .ok (.iadd, 1) := by decide +kernel
theorem dMo_resolve_17 : decode mMo_resolve.2.1 17 = .ok (.if_icmp .ge 45, 3) := by decide +kernel
theorem dMo_resolve_20 : decode mMo_resolve.2.1 20 = .ok (.aload_n 0, 1) := by decide +kernel
theorem dMo_resolve_21 : decode mMo_resolve.2.1 21 = .ok (.getfield 43, 3) := by decide +kernel
theorem dMo_resolve_24 : decode mMo_resolve.2.1 24 = .ok (.iload_n 3, 1) := by decide +kernel
theorem dMo_resolve_25 : decode mMo_resolve.2.1 25 = .ok (.aload_n 0, 1) := by decide +kernel
theorem dMo_resolve_26 : decode mMo_resolve.2.1 26 = .ok (.iload_n 1, 1) := by decide +kernel
theorem dMo_resolve_27 : decode mMo_resolve.2.1 27 = .ok (.aload_n 0, 1) := by decide +kernel
theorem dMo_resolve_28 : decode mMo_resolve.2.1 28 = .ok (.getfield 43, 3) := by decide +kernel
theorem dMo_resolve_31 : decode mMo_resolve.2.1 31 = .ok (.iload_n 3, 1) := by decide +kernel
theorem dMo_resolve_32 : decode mMo_resolve.2.1 32 = .ok (.iaload, 1) := by decide +kernel
theorem dMo_resolve_33 : decode mMo_resolve.2.1 33 = .ok (.invokevirtual 189, 3) := by decide +kernel
theorem dMo_resolve_36 : decode mMo_resolve.2.1 36 = .ok (.iastore, 1) := by decide +kernel
theorem dMo_resolve_37 : decode mMo_resolve.2.1 37 = .ok (.iload_n 2, 1) := by decide +kernel
theorem dMo_resolve_38 : decode mMo_resolve.2.1 38 = .ok (.ifCond .eq 16, 3) := by decide +kernel
theorem dMo_resolve_41 : decode mMo_resolve.2.1 41 = .ok (.aload_n 0, 1) := by decide +kernel
theorem dMo_resolve_42 : decode mMo_resolve.2.1 42 = .ok (.getfield 43, 3) := by decide +kernel
theorem dMo_resolve_45 : decode mMo_resolve.2.1 45 = .ok (.iload_n 3, 1) := by decide +kernel
theorem dMo_resolve_46 : decode mMo_resolve.2.1 46 = .ok (.iaload, 1) := by decide +kernel
theorem dMo_resolve_47 : decode mMo_resolve.2.1 47 = .ok (.ifCond .lt 7, 3) := by decide +kernel
theorem dMo_resolve_50 : decode mMo_resolve.2.1 50 = .ok (.iconst 1, 1) := by decide +kernel
theorem dMo_resolve_51 : decode mMo_resolve.2.1 51 = .ok (.goto 4, 3) := by decide +kernel
theorem dMo_resolve_54 : decode mMo_resolve.2.1 54 = .ok (.iconst 0, 1) := by decide +kernel
theorem dMo_resolve_55 : decode mMo_resolve.2.1 55 = .ok (.istore_n 2, 1) := by decide +kernel
theorem dMo_resolve_56 : decode mMo_resolve.2.1 56 = .ok (.iinc 3 1, 3) := by decide +kernel
theorem dMo_resolve_59 : decode mMo_resolve.2.1 59 = .ok (.goto (-53), 3) := by decide +kernel
theorem dMo_resolve_62 : decode mMo_resolve.2.1 62 = .ok (.bipush 6, 2) := by decide +kernel
theorem dMo_resolve_64 : decode mMo_resolve.2.1 64 = .ok (.iload_n 1, 1) := by decide +kernel
theorem dMo_resolve_65 : decode mMo_resolve.2.1 65 = .ok (.imul, 1) := by decide +kernel
theorem dMo_resolve_66 : decode mMo_resolve.2.1 66 = .ok (.istore_n 3, 1) := by decide +kernel
theorem dMo_resolve_67 : decode mMo_resolve.2.1 67 = .ok (.iload_n 3, 1) := by decide +kernel
theorem dMo_resolve_68 : decode mMo_resolve.2.1 68 = .ok (.bipush 6, 2) := by decide +kernel
theorem dMo_resolve_70 : decode mMo_resolve.2.1 70 = .ok (.iload_n 1, 1) := by decide +kernel
theorem dMo_resolve_71 : decode mMo_resolve.2.1 71 = .ok (.imul, 1) := by decide +kernel
theorem dMo_resolve_72 : decode mMo_resolve.2.1 72 = .ok (.aload_n 0, 1) := by decide +kernel
theorem dMo_resolve_73 : decode mMo_resolve.2.1 73 = .ok (.getfield 55, 3) := by decide +kernel
theorem dMo_resolve_76 : decode mMo_resolve.2.1 76 = .ok (.iload_n 1, 1) := by decide +kernel
theorem dMo_resolve_77 : decode mMo_resolve.2.1 77 = .ok (.iaload, 1) := by decide +kernel
theorem dMo_resolve_78 : decode mMo_resolve.2.1 78 = .ok (.iadd, 1) := by decide +kernel
theorem dMo_resolve_79 : decode mMo_resolve.2.1 79 = .ok (.if_icmp .ge 71, 3) := by decide +kernel
theorem dMo_resolve_82 : decode mMo_resolve.2.1 82 = .ok (.aload_n 0, 1) := by decide +kernel
theorem dMo_resolve_83 : decode mMo_resolve.2.1 83 = .ok (.getfield 58, 3) := by decide +kernel
theorem dMo_resolve_86 : decode mMo_resolve.2.1 86 = .ok (.iload_n 3, 1) := by decide +kernel
theorem dMo_resolve_87 : decode mMo_resolve.2.1 87 = .ok (.aload_n 0, 1) := by decide +kernel
theorem dMo_resolve_88 : decode mMo_resolve.2.1 88 = .ok (.iload_n 1, 1) := by decide +kernel
theorem dMo_resolve_89 : decode mMo_resolve.2.1 89 = .ok (.aload_n 0, 1) := by decide +kernel
theorem dMo_resolve_90 : decode mMo_resolve.2.1 90 = .ok (.getfield 58, 3) := by decide +kernel
theorem dMo_resolve_93 : decode mMo_resolve.2.1 93 = .ok (.iload_n 3, 1) := by decide +kernel
theorem dMo_resolve_94 : decode mMo_resolve.2.1 94 = .ok (.iaload, 1) := by decide +kernel
theorem dMo_resolve_95 : decode mMo_resolve.2.1 95 = .ok (.invokevirtual 189, 3) := by decide +kernel
theorem dMo_resolve_98 : decode mMo_resolve.2.1 98 = .ok (.iastore, 1) := by decide +kernel
theorem dMo_resolve_99 : decode mMo_resolve.2.1 99 = .ok (.aload_n 0, 1) := by decide +kernel
theorem dMo_resolve_100 : decode mMo_resolve.2.1 100 = .ok (.getfield 61, 3) := by decide +kernel
theorem dMo_resolve_103 : decode mMo_resolve.2.1 103 = .ok (.iload_n 3, 1) := by decide +kernel
theorem dMo_resolve_104 : decode mMo_resolve.2.1 104 = .ok (.aload_n 0, 1) := by decide +kernel
theorem dMo_resolve_105 : decode mMo_resolve.2.1 105 = .ok (.iload_n 1, 1) := by decide +kernel
theorem dMo_resolve_106 : decode mMo_resolve.2.1 106 = .ok (.aload_n 0, 1) := by decide +kernel
theorem dMo_resolve_107 : decode mMo_resolve.2.1 107 = .ok (.getfield 61, 3) := by decide +kernel
theorem dMo_resolve_110 : decode mMo_resolve.2.1 110 = .ok (.iload_n 3, 1) := by decide +kernel
theorem dMo_resolve_111 : decode mMo_resolve.2.1 111 = .ok (.iaload, 1) := by decide +kernel
theorem dMo_resolve_112 : decode mMo_resolve.2.1 112 = .ok (.invokevirtual 189, 3) := by decide +kernel
theorem dMo_resolve_115 : decode mMo_resolve.2.1 115 = .ok (.iastore, 1) := by decide +kernel
theorem dMo_resolve_116 : decode mMo_resolve.2.1 116 = .ok (.iload_n 2, 1) := by decide +kernel
theorem dMo_resolve_117 : decode mMo_resolve.2.1 117 = .ok (.ifCond .eq 25, 3) := by decide +kernel
theorem dMo_resolve_120 : decode mMo_resolve.2.1 120 = .ok (.aload_n 0, 1) := by decide +kernel
theorem dMo_resolve_121 : decode mMo_resolve.2.1 121 = .ok (.getfield 58, 3) := by decide +kernel
theorem dMo_resolve_124 : decode mMo_resolve.2.1 124 = .ok (.iload_n 3, 1) := by decide +kernel
theorem dMo_resolve_125 : decode mMo_resolve.2.1 125 = .ok (.iaload, 1) := by decide +kernel
theorem dMo_resolve_126 : decode mMo_resolve.2.1 126 = .ok (.ifCond .lt 16, 3) := by decide +kernel
theorem dMo_resolve_129 : decode mMo_resolve.2.1 129 = .ok (.aload_n 0, 1) := by decide +kernel
theorem dMo_resolve_130 : decode mMo_resolve.2.1 130 = .ok (.getfield 61, 3) := by decide +kernel
theorem dMo_resolve_133 : decode mMo_resolve.2.1 133 = .ok (.iload_n 3, 1) := by decide +kernel
theorem dMo_resolve_134 : decode mMo_resolve.2.1 134 = .ok (.iaload, 1) := by decide +kernel
theorem dMo_resolve_135 : decode mMo_resolve.2.1 135 = .ok (.ifCond .lt 7, 3) := by decide +kernel
theorem dMo_resolve_138 : decode mMo_resolve.2.1 138 = .ok (.iconst 1, 1) := by decide +kernel
theorem dMo_resolve_139 : decode mMo_resolve.2.1 139 = .ok (.goto 4, 3) := by decide +kernel
theorem dMo_resolve_142 : decode mMo_resolve.2.1 142 = .ok (.iconst 0, 1) := by decide +kernel
theorem dMo_resolve_143 : decode mMo_resolve.2.1 143 = .ok (.istore_n 2, 1) := by decide +kernel
theorem dMo_resolve_144 : decode mMo_resolve.2.1 144 = .ok (.iinc 3 1, 3) := by decide +kernel
theorem dMo_resolve_147 : decode mMo_resolve.2.1 147 = .ok (.goto (-80), 3) := by decide +kernel
theorem dMo_resolve_150 : decode mMo_resolve.2.1 150 = .ok (.iload_n 2, 1) := by decide +kernel
theorem dMo_resolve_151 : decode mMo_resolve.2.1 151 = .ok (.ireturn, 1) := by decide +kernel
def lMo_resolve_6 (a1 : Int32) (a2 : Int32) (a3 : Int32) : List Slot := [.val (.ref 193), .val (.int a1), .val (.int a2), .val (.int a3)]
def lMo_resolve_36 (a1 : Int32) (a2 : Int32) (a3 : Int32) : List Slot := [.val (.ref 193), .val (.int a1), .val (.int a2), .val (.int a3)]
def lMo_resolve_54 (a1 : Int32) (a2 : Int32) (a3 : Int32) : List Slot := [.val (.ref 193), .val (.int a1), .val (.int a2), .val (.int a3)]
def lMo_resolve_55 (a1 : Int32) (a2 : Int32) (a3 : Int32) : List Slot := [.val (.ref 193), .val (.int a1), .val (.int a2), .val (.int a3)]
def lMo_resolve_67 (a1 : Int32) (a2 : Int32) (a3 : Int32) : List Slot := [.val (.ref 193), .val (.int a1), .val (.int a2), .val (.int a3)]
def lMo_resolve_98 (a1 : Int32) (a2 : Int32) (a3 : Int32) : List Slot := [.val (.ref 193), .val (.int a1), .val (.int a2), .val (.int a3)]
def lMo_resolve_115 (a1 : Int32) (a2 : Int32) (a3 : Int32) : List Slot := [.val (.ref 193), .val (.int a1), .val (.int a2), .val (.int a3)]
def lMo_resolve_142 (a1 : Int32) (a2 : Int32) (a3 : Int32) : List Slot := [.val (.ref 193), .val (.int a1), .val (.int a2), .val (.int a3)]
def lMo_resolve_143 (a1 : Int32) (a2 : Int32) (a3 : Int32) : List Slot := [.val (.ref 193), .val (.int a1), .val (.int a2), .val (.int a3)]
theorem bMo_resolve_0 {a1 : Int32} (hX : X.length = 13) (k1 : QW d mMo_resolve 6 (lMo_resolve_6 a1 1 (3 * a1)) [] (hpo X mem sw o e) P) : QW d mMo_resolve 0 (qen 4 [.ref 193, .int a1]) [] (hpo X mem sw o e) P := by
  show QW d mMo_resolve 0 [.val (.ref 193), .val (.int a1), .unset, .unset] [] (hpo X mem sw o e) P
  refine QW.iconst (v := 1) dMo_resolve_0 (by decide) ?_
  refine QW.istore_n (ls' := [.val (.ref 193), .val (.int a1), .val (.int 1), .unset]) dMo_resolve_1 rfl rfl ?_
  refine QW.iconst (v := 3) dMo_resolve_2 (by decide) ?_
  refine QW.iload_n dMo_resolve_3 rfl rfl ?_
  refine QW.imul dMo_resolve_4 ?_
  refine QW.istore_n (ls' := [.val (.ref 193), .val (.int a1), .val (.int 1), .val (.int (3 * a1))]) dMo_resolve_5 rfl rfl ?_
  exact k1
theorem bMo_resolve_6 {a1 : Int32} {a2 : Int32} {a3 : Int32} (hX : X.length = 13) (h1 : inx a1 15) (k2 : (((3 * a1) + (mem 202 (Int32.toNatClampNeg a1))) ≤ a3) → QW (d + 1) mMo_resolve 67 (lMo_resolve_67 a1 a2 (6 * a1)) [] (hpo X mem sw o e) P) (h3 : (¬ ((3 * a1) + (mem 202 (Int32.toNatClampNeg a1))) ≤ a3) → inx a3 45) (k4 : (¬ ((3 * a1) + (mem 202 (Int32.toNatClampNeg a1))) ≤ a3) → QW d mMo_resolved 0 (qen 4 [.ref 193, .int a1, .int (mem 203 (Int32.toNatClampNeg a3))]) [] (hpo X mem sw o e) (qcl d mMo_resolve 33 36 (lMo_resolve_36 a1 a2 a3) [.int a3, .ref 203] P)) : QW (d + 1) mMo_resolve 6 (lMo_resolve_6 a1 a2 a3) [] (hpo X mem sw o e) P := by
  show QW (d + 1) mMo_resolve 6 [.val (.ref 193), .val (.int a1), .val (.int a2), .val (.int a3)] [] (hpo X mem sw o e) P
  refine QW.iload_n dMo_resolve_6 rfl rfl ?_
  refine QW.iconst (v := 3) dMo_resolve_7 (by decide) ?_
  refine QW.iload_n dMo_resolve_8 rfl rfl ?_
  refine QW.imul dMo_resolve_9 ?_
  refine QW.aload_n dMo_resolve_10 rfl rfl ?_
  refine MW.getr (r' := 202) hX dMo_resolve_11 fMo_40 rfl rfl (by cases sw <;> rfl) ?_
  refine QW.iload_n dMo_resolve_14 rfl rfl ?_
  refine MW.iald hX dMo_resolve_15 rfl h1.1 (rep_get h1.2) ?_
  refine QW.iadd dMo_resolve_16 ?_
  refine QW.icmp_ge (tgt := 62) dMo_resolve_17 (by decide) (fun z0 => ?_) (fun z0 => ?_)
  · refine QW.bipush (v := 6) dMo_resolve_62 (by decide) ?_
    refine QW.iload_n dMo_resolve_64 rfl rfl ?_
    refine QW.imul dMo_resolve_65 ?_
    refine QW.istore_n (ls' := [.val (.ref 193), .val (.int a1), .val (.int a2), .val (.int (6 * a1))]) dMo_resolve_66 rfl rfl ?_
    exact (k2 z0)
  · refine QW.aload_n dMo_resolve_20 rfl rfl ?_
    refine MW.getr (r' := 203) hX dMo_resolve_21 fMo_43 rfl rfl (by cases sw <;> rfl) ?_
    refine QW.iload_n dMo_resolve_24 rfl rfl ?_
    refine QW.aload_n dMo_resolve_25 rfl rfl ?_
    refine QW.iload_n dMo_resolve_26 rfl rfl ?_
    refine QW.aload_n dMo_resolve_27 rfl rfl ?_
    refine MW.getr (r' := 203) hX dMo_resolve_28 fMo_43 rfl rfl (by cases sw <;> rfl) ?_
    refine QW.iload_n dMo_resolve_31 rfl rfl ?_
    refine MW.iald hX dMo_resolve_32 rfl (h3 z0).1 (rep_get (h3 z0).2) ?_
    exact MW.calV (as := [.int a1, .int (mem 203 (Int32.toNatClampNeg a3))]) (rest := [.int a3, .ref 203]) hX dMo_resolve_33 eMo_resolved lMo_189 iMo_resolved vMo_resolved rfl rfl rfl rfl rfl rfl (Nat.le_of_ble_eq_true rfl) rfl (k4 z0)
theorem bMo_resolve_36 {a1 : Int32} {a2 : Int32} {a3 : Int32} {s2 : Int32} {s1 : Int32} (hX : X.length = 13) (h1 : inx s1 45) (k2 : (a2 = 0) → QW d mMo_resolve 54 (lMo_resolve_54 a1 a2 a3) [] (hpo X (mup mem 203 (Int32.toNatClampNeg s1) s2) sw o e) P) (h3 : (¬ a2 = 0) → inx a3 45) (k4 : (¬ a2 = 0) → (((mup mem 203 (Int32.toNatClampNeg s1) s2) 203 (Int32.toNatClampNeg a3)) < 0) → QW d mMo_resolve 54 (lMo_resolve_54 a1 a2 a3) [] (hpo X (mup mem 203 (Int32.toNatClampNeg s1) s2) sw o e) P) (k5 : (¬ a2 = 0) → (¬ ((mup mem 203 (Int32.toNatClampNeg s1) s2) 203 (Int32.toNatClampNeg a3)) < 0) → QW d mMo_resolve 55 (lMo_resolve_55 a1 a2 a3) [.int 1] (hpo X (mup mem 203 (Int32.toNatClampNeg s1) s2) sw o e) P) : QW d mMo_resolve 36 (lMo_resolve_36 a1 a2 a3) [.int s2, .int s1, .ref 203] (hpo X mem sw o e) P := by
  show QW d mMo_resolve 36 [.val (.ref 193), .val (.int a1), .val (.int a2), .val (.int a3)] [.int s2, .int s1, .ref 203] (hpo X mem sw o e) P
  refine MW.iast hX dMo_resolve_36 rfl h1.1 (rep_get h1.2) ?_
  refine QW.iload_n dMo_resolve_37 rfl rfl ?_
  refine QW.if_eq (tgt := 54) dMo_resolve_38 (by decide) (fun z0 => ?_) (fun z0 => ?_)
  · exact (k2 z0)
  · refine QW.aload_n dMo_resolve_41 rfl rfl ?_
    refine MW.getr (r' := 203) hX dMo_resolve_42 fMo_43 rfl rfl (by cases sw <;> rfl) ?_
    refine QW.iload_n dMo_resolve_45 rfl rfl ?_
    refine MW.iald hX dMo_resolve_46 rfl (h3 z0).1 (rep_get (h3 z0).2) ?_
    refine QW.if_lt (tgt := 54) dMo_resolve_47 (by decide) (fun z1 => ?_) (fun z1 => ?_)
    · exact (k4 z0 z1)
    · refine QW.iconst (v := 1) dMo_resolve_50 (by decide) ?_
      refine QW.goto (tgt := 55) dMo_resolve_51 (by decide) ?_
      exact (k5 z0 z1)
theorem bMo_resolve_54 {a1 : Int32} {a2 : Int32} {a3 : Int32} (hX : X.length = 13) (k1 : QW d mMo_resolve 55 (lMo_resolve_55 a1 a2 a3) [.int 0] (hpo X mem sw o e) P) : QW d mMo_resolve 54 (lMo_resolve_54 a1 a2 a3) [] (hpo X mem sw o e) P := by
  show QW d mMo_resolve 54 [.val (.ref 193), .val (.int a1), .val (.int a2), .val (.int a3)] [] (hpo X mem sw o e) P
  refine QW.iconst (v := 0) dMo_resolve_54 (by decide) ?_
  exact k1
theorem bMo_resolve_55 {a1 : Int32} {a2 : Int32} {a3 : Int32} {s0 : Int32} (hX : X.length = 13) (k1 : QW d mMo_resolve 6 (lMo_resolve_6 a1 s0 (a3 + 1)) [] (hpo X mem sw o e) P) : QW d mMo_resolve 55 (lMo_resolve_55 a1 a2 a3) [.int s0] (hpo X mem sw o e) P := by
  show QW d mMo_resolve 55 [.val (.ref 193), .val (.int a1), .val (.int a2), .val (.int a3)] [.int s0] (hpo X mem sw o e) P
  refine QW.istore_n (ls' := [.val (.ref 193), .val (.int a1), .val (.int s0), .val (.int a3)]) dMo_resolve_55 rfl rfl ?_
  refine MW.iinc (c := 1) (ls' := [.val (.ref 193), .val (.int a1), .val (.int s0), .val (.int (a3 + 1))]) dMo_resolve_56 (by decide) rfl rfl ?_
  refine QW.goto (tgt := 6) dMo_resolve_59 (by decide) ?_
  exact k1
theorem bMo_resolve_67 {a1 : Int32} {a2 : Int32} {a3 : Int32} (hX : X.length = 13) (h1 : inx a1 15) (h2 : (((6 * a1) + (mem 207 (Int32.toNatClampNeg a1))) ≤ a3) → narrow .boolean (.int a2) = .int a2) (k3 : (((6 * a1) + (mem 207 (Int32.toNatClampNeg a1))) ≤ a3) → P (.inl (some (.int a2)), (hpo X mem sw o e))) (h4 : (¬ ((6 * a1) + (mem 207 (Int32.toNatClampNeg a1))) ≤ a3) → inx a3 90) (k5 : (¬ ((6 * a1) + (mem 207 (Int32.toNatClampNeg a1))) ≤ a3) → QW d mMo_resolved 0 (qen 4 [.ref 193, .int a1, .int (mem 208 (Int32.toNatClampNeg a3))]) [] (hpo X mem sw o e) (qcl d mMo_resolve 95 98 (lMo_resolve_98 a1 a2 a3) [.int a3, .ref 208] P)) : QW (d + 1) mMo_resolve 67 (lMo_resolve_67 a1 a2 a3) [] (hpo X mem sw o e) P := by
  show QW (d + 1) mMo_resolve 67 [.val (.ref 193), .val (.int a1), .val (.int a2), .val (.int a3)] [] (hpo X mem sw o e) P
  refine QW.iload_n dMo_resolve_67 rfl rfl ?_
  refine QW.bipush (v := 6) dMo_resolve_68 (by decide) ?_
  refine QW.iload_n dMo_resolve_70 rfl rfl ?_
  refine QW.imul dMo_resolve_71 ?_
  refine QW.aload_n dMo_resolve_72 rfl rfl ?_
  refine MW.getr (r' := 207) hX dMo_resolve_73 fMo_55 rfl rfl (by cases sw <;> rfl) ?_
  refine QW.iload_n dMo_resolve_76 rfl rfl ?_
  refine MW.iald hX dMo_resolve_77 rfl h1.1 (rep_get h1.2) ?_
  refine QW.iadd dMo_resolve_78 ?_
  refine QW.icmp_ge (tgt := 150) dMo_resolve_79 (by decide) (fun z0 => ?_) (fun z0 => ?_)
  · refine QW.iload_n dMo_resolve_150 rfl rfl ?_
    exact QW.iret dMo_resolve_151 rfl (h2 z0) (k3 z0)
  · refine QW.aload_n dMo_resolve_82 rfl rfl ?_
    refine MW.getr (r' := 208) hX dMo_resolve_83 fMo_58 rfl rfl (by cases sw <;> rfl) ?_
    refine QW.iload_n dMo_resolve_86 rfl rfl ?_
    refine QW.aload_n dMo_resolve_87 rfl rfl ?_
    refine QW.iload_n dMo_resolve_88 rfl rfl ?_
    refine QW.aload_n dMo_resolve_89 rfl rfl ?_
    refine MW.getr (r' := 208) hX dMo_resolve_90 fMo_58 rfl rfl (by cases sw <;> rfl) ?_
    refine QW.iload_n dMo_resolve_93 rfl rfl ?_
    refine MW.iald hX dMo_resolve_94 rfl (h4 z0).1 (rep_get (h4 z0).2) ?_
    exact MW.calV (as := [.int a1, .int (mem 208 (Int32.toNatClampNeg a3))]) (rest := [.int a3, .ref 208]) hX dMo_resolve_95 eMo_resolved lMo_189 iMo_resolved vMo_resolved rfl rfl rfl rfl rfl rfl (Nat.le_of_ble_eq_true rfl) rfl (k5 z0)
theorem bMo_resolve_98 {a1 : Int32} {a2 : Int32} {a3 : Int32} {s2 : Int32} {s1 : Int32} (hX : X.length = 13) (h1 : inx s1 90) (h2 : inx a3 90) (k3 : QW d mMo_resolved 0 (qen 4 [.ref 193, .int a1, .int ((mup mem 208 (Int32.toNatClampNeg s1) s2) 209 (Int32.toNatClampNeg a3))]) [] (hpo X (mup mem 208 (Int32.toNatClampNeg s1) s2) sw o e) (qcl d mMo_resolve 112 115 (lMo_resolve_115 a1 a2 a3) [.int a3, .ref 209] P)) : QW (d + 1) mMo_resolve 98 (lMo_resolve_98 a1 a2 a3) [.int s2, .int s1, .ref 208] (hpo X mem sw o e) P := by
  show QW (d + 1) mMo_resolve 98 [.val (.ref 193), .val (.int a1), .val (.int a2), .val (.int a3)] [.int s2, .int s1, .ref 208] (hpo X mem sw o e) P
  refine MW.iast hX dMo_resolve_98 rfl h1.1 (rep_get h1.2) ?_
  refine QW.aload_n dMo_resolve_99 rfl rfl ?_
  refine MW.getr (r' := 209) hX dMo_resolve_100 fMo_61 rfl rfl (by cases sw <;> rfl) ?_
  refine QW.iload_n dMo_resolve_103 rfl rfl ?_
  refine QW.aload_n dMo_resolve_104 rfl rfl ?_
  refine QW.iload_n dMo_resolve_105 rfl rfl ?_
  refine QW.aload_n dMo_resolve_106 rfl rfl ?_
  refine MW.getr (r' := 209) hX dMo_resolve_107 fMo_61 rfl rfl (by cases sw <;> rfl) ?_
  refine QW.iload_n dMo_resolve_110 rfl rfl ?_
  refine MW.iald hX dMo_resolve_111 rfl h2.1 (rep_get h2.2) ?_
  exact MW.calV (as := [.int a1, .int ((mup mem 208 (Int32.toNatClampNeg s1) s2) 209 (Int32.toNatClampNeg a3))]) (rest := [.int a3, .ref 209]) hX dMo_resolve_112 eMo_resolved lMo_189 iMo_resolved vMo_resolved rfl rfl rfl rfl rfl rfl (Nat.le_of_ble_eq_true rfl) rfl k3
theorem bMo_resolve_115 {a1 : Int32} {a2 : Int32} {a3 : Int32} {s2 : Int32} {s1 : Int32} (hX : X.length = 13) (h1 : inx s1 90) (k2 : (a2 = 0) → QW d mMo_resolve 142 (lMo_resolve_142 a1 a2 a3) [] (hpo X (mup mem 209 (Int32.toNatClampNeg s1) s2) sw o e) P) (h3 : (¬ a2 = 0) → inx a3 90) (k4 : (¬ a2 = 0) → (((mup mem 209 (Int32.toNatClampNeg s1) s2) 208 (Int32.toNatClampNeg a3)) < 0) → QW d mMo_resolve 142 (lMo_resolve_142 a1 a2 a3) [] (hpo X (mup mem 209 (Int32.toNatClampNeg s1) s2) sw o e) P) (h5 : (¬ a2 = 0) → (¬ ((mup mem 209 (Int32.toNatClampNeg s1) s2) 208 (Int32.toNatClampNeg a3)) < 0) → inx a3 90) (k6 : (¬ a2 = 0) → (¬ ((mup mem 209 (Int32.toNatClampNeg s1) s2) 208 (Int32.toNatClampNeg a3)) < 0) → (((mup mem 209 (Int32.toNatClampNeg s1) s2) 209 (Int32.toNatClampNeg a3)) < 0) → QW d mMo_resolve 142 (lMo_resolve_142 a1 a2 a3) [] (hpo X (mup mem 209 (Int32.toNatClampNeg s1) s2) sw o e) P) (k7 : (¬ a2 = 0) → (¬ ((mup mem 209 (Int32.toNatClampNeg s1) s2) 208 (Int32.toNatClampNeg a3)) < 0) → (¬ ((mup mem 209 (Int32.toNatClampNeg s1) s2) 209 (Int32.toNatClampNeg a3)) < 0) → QW d mMo_resolve 143 (lMo_resolve_143 a1 a2 a3) [.int 1] (hpo X (mup mem 209 (Int32.toNatClampNeg s1) s2) sw o e) P) : QW d mMo_resolve 115 (lMo_resolve_115 a1 a2 a3) [.int s2, .int s1, .ref 209] (hpo X mem sw o e) P := by
  show QW d mMo_resolve 115 [.val (.ref 193), .val (.int a1), .val (.int a2), .val (.int a3)] [.int s2, .int s1, .ref 209] (hpo X mem sw o e) P
  refine MW.iast hX dMo_resolve_115 rfl h1.1 (rep_get h1.2) ?_
  refine QW.iload_n dMo_resolve_116 rfl rfl ?_
  refine QW.if_eq (tgt := 142) dMo_resolve_117 (by decide) (fun z0 => ?_) (fun z0 => ?_)
  · exact (k2 z0)
  · refine QW.aload_n dMo_resolve_120 rfl rfl ?_
    refine MW.getr (r' := 208) hX dMo_resolve_121 fMo_58 rfl rfl (by cases sw <;> rfl) ?_
    refine QW.iload_n dMo_resolve_124 rfl rfl ?_
    refine MW.iald hX dMo_resolve_125 rfl (h3 z0).1 (rep_get (h3 z0).2) ?_
    refine QW.if_lt (tgt := 142) dMo_resolve_126 (by decide) (fun z1 => ?_) (fun z1 => ?_)
    · exact (k4 z0 z1)
    · refine QW.aload_n dMo_resolve_129 rfl rfl ?_
      refine MW.getr (r' := 209) hX dMo_resolve_130 fMo_61 rfl rfl (by cases sw <;> rfl) ?_
      refine QW.iload_n dMo_resolve_133 rfl rfl ?_
      refine MW.iald hX dMo_resolve_134 rfl (h5 z0 z1).1 (rep_get (h5 z0 z1).2) ?_
      refine QW.if_lt (tgt := 142) dMo_resolve_135 (by decide) (fun z2 => ?_) (fun z2 => ?_)
      · exact (k6 z0 z1 z2)
      · refine QW.iconst (v := 1) dMo_resolve_138 (by decide) ?_
        refine QW.goto (tgt := 143) dMo_resolve_139 (by decide) ?_
        exact (k7 z0 z1 z2)
theorem bMo_resolve_142 {a1 : Int32} {a2 : Int32} {a3 : Int32} (hX : X.length = 13) (k1 : QW d mMo_resolve 143 (lMo_resolve_143 a1 a2 a3) [.int 0] (hpo X mem sw o e) P) : QW d mMo_resolve 142 (lMo_resolve_142 a1 a2 a3) [] (hpo X mem sw o e) P := by
  show QW d mMo_resolve 142 [.val (.ref 193), .val (.int a1), .val (.int a2), .val (.int a3)] [] (hpo X mem sw o e) P
  refine QW.iconst (v := 0) dMo_resolve_142 (by decide) ?_
  exact k1
theorem bMo_resolve_143 {a1 : Int32} {a2 : Int32} {a3 : Int32} {s0 : Int32} (hX : X.length = 13) (k1 : QW d mMo_resolve 67 (lMo_resolve_67 a1 s0 (a3 + 1)) [] (hpo X mem sw o e) P) : QW d mMo_resolve 143 (lMo_resolve_143 a1 a2 a3) [.int s0] (hpo X mem sw o e) P := by
  show QW d mMo_resolve 143 [.val (.ref 193), .val (.int a1), .val (.int a2), .val (.int a3)] [.int s0] (hpo X mem sw o e) P
  refine QW.istore_n (ls' := [.val (.ref 193), .val (.int a1), .val (.int s0), .val (.int a3)]) dMo_resolve_143 rfl rfl ?_
  refine MW.iinc (c := 1) (ls' := [.val (.ref 193), .val (.int a1), .val (.int s0), .val (.int (a3 + 1))]) dMo_resolve_144 (by decide) rfl rfl ?_
  refine QW.goto (tgt := 67) dMo_resolve_147 (by decide) ?_
  exact k1
theorem dMo_readText_0 : decode mMo_readText.2.1 0 = .ok (.aload_n 0, 1) := by decide +kernel
theorem dMo_readText_1 : decode mMo_readText.2.1 1 = .ok (.iconst 0, 1) := by decide +kernel
theorem dMo_readText_2 : decode mMo_readText.2.1 2 = .ok (.putfield 125, 3) := by decide +kernel
theorem dMo_readText_5 : decode mMo_readText.2.1 5 = .ok (.aload_n 0, 1) := by decide +kernel
theorem dMo_readText_6 : decode mMo_readText.2.1 6 = .ok (.invokevirtual 154, 3) := by decide +kernel
theorem dMo_readText_9 : decode mMo_readText.2.1 9 = .ok (.iconst 0, 1) := by decide +kernel
theorem dMo_readText_10 : decode mMo_readText.2.1 10 = .ok (.istore_n 1, 1) := by decide +kernel
theorem dMo_readText_11 : decode mMo_readText.2.1 11 = .ok (.iload_n 1, 1) := by decide +kernel
theorem dMo_readText_12 : decode mMo_readText.2.1 12 = .ok (.iconst 3, 1) := by decide +kernel
theorem dMo_readText_13 : decode mMo_readText.2.1 13 = .ok (.if_icmp .ge 161, 3) := by decide +kernel
theorem dMo_readText_16 : decode mMo_readText.2.1 16 = .ok (.aload_n 0, 1) := by decide +kernel
theorem dMo_readText_17 : decode mMo_readText.2.1 17 = .ok (.getfield 128, 3) := by decide +kernel
theorem dMo_readText_20 : decode mMo_readText.2.1 20 = .ok (.istore_n 2, 1) := by decide +kernel
theorem dMo_readText_21 : decode mMo_readText.2.1 21 = .ok (.aload_n 0, 1) := by decide +kernel
theorem dMo_readText_22 : decode mMo_readText.2.1 22 = .ok (.bipush 12, 2) := by decide +kernel
theorem dMo_readText_24 : decode mMo_readText.2.1 24 = .ok (.iload_n 1, 1) := by decide +kernel
theorem dMo_readText_25 : decode mMo_readText.2.1 25 = .ok (.iadd, 1) := by decide +kernel
theorem dMo_readText_26 : decode mMo_readText.2.1 26 = .ok (.invokevirtual 193, 3) := by decide +kernel
theorem dMo_readText_29 : decode mMo_readText.2.1 29 = .ok (.ifCond .ne 22, 3) := by decide +kernel
theorem dMo_readText_32 : decode mMo_readText.2.1 32 = .ok (.aload_n 0, 1) := by decide +kernel
theorem dMo_readText_33 : decode mMo_readText.2.1 33 = .ok (.getfield 135, 3) := by decide +kernel
theorem dMo_readText_36 : decode mMo_readText.2.1 36 = .ok (.ifCond .ne 10, 3) := by decide +kernel
theorem dMo_readText_39 : decode mMo_readText.2.1 39 = .ok (.aload_n 0, 1) := by decide +kernel
theorem dMo_readText_40 : decode mMo_readText.2.1 40 = .ok (.getfield 122, 3) := by decide +kernel
theorem dMo_readText_43 : decode mMo_readText.2.1 43 = .ok (.goto 7, 3) := by decide +kernel
theorem dMo_readText_46 : decode mMo_readText.2.1 46 = .ok (.aload_n 0, 1) := by decide +kernel
theorem dMo_readText_47 : decode mMo_readText.2.1 47 = .ok (.getfield 128, 3) := by decide +kernel
theorem dMo_readText_50 : decode mMo_readText.2.1 50 = .ok (.ireturn, 1) := by decide +kernel
theorem dMo_readText_51 : decode mMo_readText.2.1 51 = .ok (.aload_n 0, 1) := by decide +kernel
theorem dMo_readText_52 : decode mMo_readText.2.1 52 = .ok (.bipush 12, 2) := by decide +kernel
theorem dMo_readText_54 : decode mMo_readText.2.1 54 = .ok (.iload_n 1, 1) := by decide +kernel
theorem dMo_readText_55 : decode mMo_readText.2.1 55 = .ok (.iadd, 1) := by decide +kernel
theorem dMo_readText_56 : decode mMo_readText.2.1 56 = .ok (.invokevirtual 196, 3) := by decide +kernel
theorem dMo_readText_59 : decode mMo_readText.2.1 59 = .ok (.ifCond .eq 22, 3) := by decide +kernel
theorem dMo_readText_62 : decode mMo_readText.2.1 62 = .ok (.aload_n 0, 1) := by decide +kernel
theorem dMo_readText_63 : decode mMo_readText.2.1 63 = .ok (.getfield 40, 3) := by decide +kernel
theorem dMo_readText_66 : decode mMo_readText.2.1 66 = .ok (.bipush 12, 2) := by decide +kernel
theorem dMo_readText_68 : decode mMo_readText.2.1 68 = .ok (.iload_n 1, 1) := by decide +kernel
theorem dMo_readText_69 : decode mMo_readText.2.1 69 = .ok (.iadd, 1) := by decide +kernel
theorem dMo_readText_70 : decode mMo_readText.2.1 70 = .ok (.iaload, 1) := by decide +kernel
theorem dMo_readText_71 : decode mMo_readText.2.1 71 = .ok (.aload_n 0, 1) := by decide +kernel
theorem dMo_readText_72 : decode mMo_readText.2.1 72 = .ok (.getfield 40, 3) := by decide +kernel
theorem dMo_readText_75 : decode mMo_readText.2.1 75 = .ok (.bipush 12, 2) := by decide +kernel
theorem dMo_readText_77 : decode mMo_readText.2.1 77 = .ok (.iaload, 1) := by decide +kernel
theorem dMo_readText_78 : decode mMo_readText.2.1 78 = .ok (.if_icmp .eq 27, 3) := by decide +kernel
theorem dMo_readText_81 : decode mMo_readText.2.1 81 = .ok (.aload_n 0, 1) := by decide +kernel
theorem dMo_readText_82 : decode mMo_readText.2.1 82 = .ok (.getfield 135, 3) := by decide +kernel
theorem dMo_readText_85 : decode mMo_readText.2.1 85 = .ok (.ifCond .ne 18, 3) := by decide +kernel
theorem dMo_readText_88 : decode mMo_readText.2.1 88 = .ok (.iload_n 2, 1) := by decide +kernel
theorem dMo_readText_89 : decode mMo_readText.2.1 89 = .ok (.aload_n 0, 1) := by decide +kernel
theorem dMo_readText_90 : decode mMo_readText.2.1 90 = .ok (.getfield 122, 3) := by decide +kernel
theorem dMo_readText_93 : decode mMo_readText.2.1 93 = .ok (.if_icmp .lt 10, 3) := by decide +kernel
theorem dMo_readText_96 : decode mMo_readText.2.1 96 = .ok (.aload_n 0, 1) := by decide +kernel
theorem dMo_readText_97 : decode mMo_readText.2.1 97 = .ok (.getfield 122, 3) := by decide +kernel
theorem dMo_readText_100 : decode mMo_readText.2.1 100 = .ok (.goto 4, 3) := by decide +kernel
theorem dMo_readText_103 : decode mMo_readText.2.1 103 = .ok (.iload_n 2, 1) := by decide +kernel
theorem dMo_readText_104 : decode mMo_readText.2.1 104 = .ok (.ireturn, 1) := by decide +kernel
theorem dMo_readText_105 : decode mMo_readText.2.1 105 = .ok (.aload_n 0, 1) := by decide +kernel
theorem dMo_readText_106 : decode mMo_readText.2.1 106 = .ok (.getfield 31, 3) := by decide +kernel
theorem dMo_readText_109 : decode mMo_readText.2.1 109 = .ok (.iconst 4, 1) := by decide +kernel
theorem dMo_readText_110 : decode mMo_readText.2.1 110 = .ok (.iload_n 1, 1) := by decide +kernel
theorem dMo_readText_111 : decode mMo_readText.2.1 111 = .ok (.iconst 1, 1) := by decide +kernel
theorem dMo_readText_112 : decode mMo_readText.2.1 112 = .ok (.iadd, 1) := by decide +kernel
theorem dMo_readText_113 : decode mMo_readText.2.1 113 = .ok (.iastore, 1) := by decide +kernel
theorem dMo_readText_114 : decode mMo_readText.2.1 114 = .ok (.aload_n 0, 1) := by decide +kernel
theorem dMo_readText_115 : decode mMo_readText.2.1 115 = .ok (.getfield 135, 3) := by decide +kernel
theorem dMo_readText_118 : decode mMo_readText.2.1 118 = .ok (.ifCond .ne 5, 3) := by decide +kernel
theorem dMo_readText_121 : decode mMo_readText.2.1 121 = .ok (.iconst (-1), 1) := by decide +kernel
theorem dMo_readText_122 : decode mMo_readText.2.1 122 = .ok (.ireturn, 1) := by decide +kernel
theorem dMo_readText_123 : decode mMo_readText.2.1 123 = .ok (.iload_n 1, 1) := by decide +kernel
theorem dMo_readText_124 : decode mMo_readText.2.1 124 = .ok (.iconst 2, 1) := by decide +kernel
theorem dMo_readText_125 : decode mMo_readText.2.1 125 = .ok (.if_icmp .ge 43, 3) := by decide +kernel
theorem dMo_readText_128 : decode mMo_readText.2.1 128 = .ok (.aload_n 0, 1) := by decide +kernel
theorem dMo_readText_129 : decode mMo_readText.2.1 129 = .ok (.getfield 34, 3) := by decide +kernel
theorem dMo_readText_132 : decode mMo_readText.2.1 132 = .ok (.bipush 8, 2) := by decide +kernel
theorem dMo_readText_134 : decode mMo_readText.2.1 134 = .ok (.iload_n 1, 1) := by decide +kernel
theorem dMo_readText_135 : decode mMo_readText.2.1 135 = .ok (.iadd, 1) := by decide +kernel
theorem dMo_readText_136 : decode mMo_readText.2.1 136 = .ok (.aload_n 0, 1) := by decide +kernel
theorem dMo_readText_137 : decode mMo_readText.2.1 137 = .ok (.bipush 43, 2) := by decide +kernel
theorem dMo_readText_139 : decode mMo_readText.2.1 139 = .ok (.invokevirtual 151, 3) := by decide +kernel
theorem dMo_readText_142 : decode mMo_readText.2.1 142 = .ok (.ifCond .eq 7, 3) := by decide +kernel
theorem dMo_readText_145 : decode mMo_readText.2.1 145 = .ok (.iconst 0, 1) := by decide +kernel
theorem dMo_readText_146 : decode mMo_readText.2.1 146 = .ok (.goto 17, 3) := by decide +kernel
theorem dMo_readText_149 : decode mMo_readText.2.1 149 = .ok (.aload_n 0, 1) := by decide +kernel
theorem dMo_readText_150 : decode mMo_readText.2.1 150 = .ok (.bipush 45, 2) := by decide +kernel
theorem dMo_readText_152 : decode mMo_readText.2.1 152 = .ok (.invokevirtual 151, 3) := by decide +kernel
theorem dMo_readText_155 : decode mMo_readText.2.1 155 = .ok (.ifCond .eq 7, 3) := by decide +kernel
theorem dMo_readText_158 : decode mMo_readText.2.1 158 = .ok (.iconst 1, 1) := by decide +kernel
theorem dMo_readText_159 : decode mMo_readText.2.1 159 = .ok (.goto 4, 3) := by decide +kernel
theorem dMo_readText_162 : decode mMo_readText.2.1 162 = .ok (.iconst 2, 1) := by decide +kernel
theorem dMo_readText_163 : decode mMo_readText.2.1 163 = .ok (.iastore, 1) := by decide +kernel
theorem dMo_readText_164 : decode mMo_readText.2.1 164 = .ok (.aload_n 0, 1) := by decide +kernel
theorem dMo_readText_165 : decode mMo_readText.2.1 165 = .ok (.invokevirtual 154, 3) := by decide +kernel
theorem dMo_readText_168 : decode mMo_readText.2.1 168 = .ok (.iinc 1 1, 3) := by decide +kernel
theorem dMo_readText_171 : decode mMo_readText.2.1 171 = .ok (.goto (-160), 3) := by decide +kernel
theorem dMo_readText_174 : decode mMo_readText.2.1 174 = .ok (.aload_n 0, 1) := by decide +kernel
theorem dMo_readText_175 : decode mMo_readText.2.1 175 = .ok (.getfield 128, 3) := by decide +kernel
theorem dMo_readText_178 : decode mMo_readText.2.1 178 = .ok (.ireturn, 1) := by decide +kernel
def lMo_readText_9  : List Slot := [.val (.ref 193), .unset, .unset]
def lMo_readText_11 (a1 : Int32) (w2 : Slot) : List Slot := [.val (.ref 193), .val (.int a1), w2]
def lMo_readText_29 (a1 : Int32) (a2 : Int32) : List Slot := [.val (.ref 193), .val (.int a1), .val (.int a2)]
def lMo_readText_59 (a1 : Int32) (a2 : Int32) : List Slot := [.val (.ref 193), .val (.int a1), .val (.int a2)]
def lMo_readText_81 (a1 : Int32) (a2 : Int32) : List Slot := [.val (.ref 193), .val (.int a1), .val (.int a2)]
def lMo_readText_103 (a1 : Int32) (a2 : Int32) : List Slot := [.val (.ref 193), .val (.int a1), .val (.int a2)]
def lMo_readText_142 (a1 : Int32) (a2 : Int32) : List Slot := [.val (.ref 193), .val (.int a1), .val (.int a2)]
def lMo_readText_155 (a1 : Int32) (a2 : Int32) : List Slot := [.val (.ref 193), .val (.int a1), .val (.int a2)]
def lMo_readText_163 (a1 : Int32) (a2 : Int32) : List Slot := [.val (.ref 193), .val (.int a1), .val (.int a2)]
def lMo_readText_168 (a1 : Int32) (a2 : Int32) : List Slot := [.val (.ref 193), .val (.int a1), .val (.int a2)]
theorem bMo_readText_0 (hX : X.length = 13) (k1 : QW d mMo_next 0 (qen 2 [.ref 193]) [] (hpo X (mup mem 193 11 0) sw o e) (qcl d mMo_readText 6 9 lMo_readText_9 [] P)) : QW (d + 1) mMo_readText 0 (qen 3 [.ref 193]) [] (hpo X mem sw o e) P := by
  show QW (d + 1) mMo_readText 0 [.val (.ref 193), .unset, .unset] [] (hpo X mem sw o e) P
  refine QW.aload_n dMo_readText_0 rfl rfl ?_
  refine QW.iconst (v := 0) dMo_readText_1 (by decide) ?_
  refine MW.puti hX dMo_readText_2 fMo_125 rfl rfl rfl ?_
  refine QW.aload_n dMo_readText_5 rfl rfl ?_
  exact MW.calV (as := []) (rest := []) hX dMo_readText_6 eMo_next lMo_154 iMo_next vMo_next rfl rfl rfl rfl rfl rfl (Nat.le_of_ble_eq_true rfl) rfl k1
theorem bMo_readText_9 (hX : X.length = 13) (k1 : QW d mMo_readText 11 (lMo_readText_11 0 .unset) [] (hpo X mem sw o e) P) : QW d mMo_readText 9 (lMo_readText_9) [] (hpo X mem sw o e) P := by
  show QW d mMo_readText 9 [.val (.ref 193), .unset, .unset] [] (hpo X mem sw o e) P
  refine QW.iconst (v := 0) dMo_readText_9 (by decide) ?_
  refine QW.istore_n (ls' := [.val (.ref 193), .val (.int 0), .unset]) dMo_readText_10 rfl rfl ?_
  exact k1
theorem bMo_readText_11 {a1 : Int32} {w2 : Slot} (hX : X.length = 13) (hw2 : qfr w2) (k1 : (3 ≤ a1) → P (.inl (some (.int (mem 193 10))), (hpo X mem sw o e))) (k2 : (¬ 3 ≤ a1) → QW d mMo_readBlock 0 (qen 2 [.ref 193, .int (12 + a1)]) [] (hpo X mem sw o e) (qcl d mMo_readText 26 29 (lMo_readText_29 a1 (mem 193 10)) [] P)) : QW (d + 1) mMo_readText 11 (lMo_readText_11 a1 w2) [] (hpo X mem sw o e) P := by
  show QW (d + 1) mMo_readText 11 [.val (.ref 193), .val (.int a1), w2] [] (hpo X mem sw o e) P
  refine QW.iload_n dMo_readText_11 rfl rfl ?_
  refine QW.iconst (v := 3) dMo_readText_12 (by decide) ?_
  refine QW.icmp_ge (tgt := 174) dMo_readText_13 (by decide) (fun z0 => ?_) (fun z0 => ?_)
  · refine QW.aload_n dMo_readText_174 rfl rfl ?_
    refine MW.geti hX dMo_readText_175 fMo_128 rfl rfl ?_
    exact QW.iret dMo_readText_178 rfl rfl (k1 z0)
  · refine QW.aload_n dMo_readText_16 rfl rfl ?_
    refine MW.geti hX dMo_readText_17 fMo_128 rfl rfl ?_
    refine QW.istore_n (ls' := [.val (.ref 193), .val (.int a1), .val (.int (mem 193 10))]) dMo_readText_20 rfl (by rcases hw2 with z | ⟨_, z⟩ | ⟨_, z⟩ <;> subst z <;> rfl) ?_
    refine QW.aload_n dMo_readText_21 rfl rfl ?_
    refine QW.bipush (v := 12) dMo_readText_22 (by decide) ?_
    refine QW.iload_n dMo_readText_24 rfl rfl ?_
    refine QW.iadd dMo_readText_25 ?_
    exact MW.calV (as := [.int (12 + a1)]) (rest := []) hX dMo_readText_26 eMo_readBlock lMo_193 iMo_readBlock vMo_readBlock rfl rfl rfl rfl rfl rfl (Nat.le_of_ble_eq_true rfl) rfl (k2 z0)
theorem bMo_readText_29 {a1 : Int32} {a2 : Int32} {s0 : Int32} (hX : X.length = 13) (k1 : (¬ s0 = 0) → QW d mMo_resolve 0 (qen 4 [.ref 193, .int (12 + a1)]) [] (hpo X mem sw o e) (qcl d mMo_readText 56 59 (lMo_readText_59 a1 a2) [] P)) (k2 : (s0 = 0) → (¬ (mem 193 9) = 0) → P (.inl (some (.int (mem 193 10))), (hpo X mem sw o e))) (k3 : (s0 = 0) → ((mem 193 9) = 0) → P (.inl (some (.int (mem 193 6))), (hpo X mem sw o e))) : QW (d + 1) mMo_readText 29 (lMo_readText_29 a1 a2) [.int s0] (hpo X mem sw o e) P := by
  show QW (d + 1) mMo_readText 29 [.val (.ref 193), .val (.int a1), .val (.int a2)] [.int s0] (hpo X mem sw o e) P
  refine QW.if_ne (tgt := 51) dMo_readText_29 (by decide) (fun z0 => ?_) (fun z0 => ?_)
  · refine QW.aload_n dMo_readText_51 rfl rfl ?_
    refine QW.bipush (v := 12) dMo_readText_52 (by decide) ?_
    refine QW.iload_n dMo_readText_54 rfl rfl ?_
    refine QW.iadd dMo_readText_55 ?_
    exact MW.calV (as := [.int (12 + a1)]) (rest := []) hX dMo_readText_56 eMo_resolve lMo_196 iMo_resolve vMo_resolve rfl rfl rfl rfl rfl rfl (Nat.le_of_ble_eq_true rfl) rfl (k1 z0)
  · refine QW.aload_n dMo_readText_32 rfl rfl ?_
    refine MW.geti hX dMo_readText_33 fMo_135 rfl rfl ?_
    refine QW.if_ne (tgt := 46) dMo_readText_36 (by decide) (fun z1 => ?_) (fun z1 => ?_)
    · refine QW.aload_n dMo_readText_46 rfl rfl ?_
      refine MW.geti hX dMo_readText_47 fMo_128 rfl rfl ?_
      exact QW.iret dMo_readText_50 rfl rfl (k2 z0 z1)
    · refine QW.aload_n dMo_readText_39 rfl rfl ?_
      refine MW.geti hX dMo_readText_40 fMo_122 rfl rfl ?_
      refine QW.goto (tgt := 50) dMo_readText_43 (by decide) ?_
      exact QW.iret dMo_readText_50 rfl rfl (k3 z0 z1)
theorem bMo_readText_59 {a1 : Int32} {a2 : Int32} {s0 : Int32} (hX : X.length = 13) (k1 : (s0 = 0) → QW (d + 1) mMo_readText 81 (lMo_readText_81 a1 a2) [] (hpo X mem sw o e) P) (h2 : (¬ s0 = 0) → inx (12 + a1) 15) (k3 : (¬ s0 = 0) → ((mem 202 (Int32.toNatClampNeg (12 + a1))) = (mem 202 (Int32.toNatClampNeg 12))) → (¬ ((mup mem 199 (Int32.toNatClampNeg 4) (a1 + 1)) 193 9) = 0) → (2 ≤ a1) → QW (d + 1) mMo_readText 168 (lMo_readText_168 a1 a2) [] (hpo X (mup mem 199 (Int32.toNatClampNeg 4) (a1 + 1)) sw o e) P) (k4 : (¬ s0 = 0) → ((mem 202 (Int32.toNatClampNeg (12 + a1))) = (mem 202 (Int32.toNatClampNeg 12))) → (¬ ((mup mem 199 (Int32.toNatClampNeg 4) (a1 + 1)) 193 9) = 0) → (¬ 2 ≤ a1) → QW d mMo_isIt 0 (qen 2 [.ref 193, .int 43]) [] (hpo X (mup mem 199 (Int32.toNatClampNeg 4) (a1 + 1)) sw o e) (qcl d mMo_readText 139 142 (lMo_readText_142 a1 a2) [.int (8 + a1), .ref 200] P)) (k5 : (¬ s0 = 0) → ((mem 202 (Int32.toNatClampNeg (12 + a1))) = (mem 202 (Int32.toNatClampNeg 12))) → (((mup mem 199 (Int32.toNatClampNeg 4) (a1 + 1)) 193 9) = 0) → P (.inl (some (.int (-1))), (hpo X (mup mem 199 (Int32.toNatClampNeg 4) (a1 + 1)) sw o e))) (k6 : (¬ s0 = 0) → (¬ (mem 202 (Int32.toNatClampNeg (12 + a1))) = (mem 202 (Int32.toNatClampNeg 12))) → QW (d + 1) mMo_readText 81 (lMo_readText_81 a1 a2) [] (hpo X mem sw o e) P) : QW (d + 1) mMo_readText 59 (lMo_readText_59 a1 a2) [.int s0] (hpo X mem sw o e) P := by
  show QW (d + 1) mMo_readText 59 [.val (.ref 193), .val (.int a1), .val (.int a2)] [.int s0] (hpo X mem sw o e) P
  refine QW.if_eq (tgt := 81) dMo_readText_59 (by decide) (fun z0 => ?_) (fun z0 => ?_)
  · exact (k1 z0)
  · refine QW.aload_n dMo_readText_62 rfl rfl ?_
    refine MW.getr (r' := 202) hX dMo_readText_63 fMo_40 rfl rfl (by cases sw <;> rfl) ?_
    refine QW.bipush (v := 12) dMo_readText_66 (by decide) ?_
    refine QW.iload_n dMo_readText_68 rfl rfl ?_
    refine QW.iadd dMo_readText_69 ?_
    refine MW.iald hX dMo_readText_70 rfl (h2 z0).1 (rep_get (h2 z0).2) ?_
    refine QW.aload_n dMo_readText_71 rfl rfl ?_
    refine MW.getr (r' := 202) hX dMo_readText_72 fMo_40 rfl rfl (by cases sw <;> rfl) ?_
    refine QW.bipush (v := 12) dMo_readText_75 (by decide) ?_
    refine MW.iald hX dMo_readText_77 rfl (show inx 12 15 from ⟨by decide, by decide⟩).1 (rep_get (show inx 12 15 from ⟨by decide, by decide⟩).2) ?_
    refine QW.icmp_eq (tgt := 105) dMo_readText_78 (by decide) (fun z1 => ?_) (fun z1 => ?_)
    · refine QW.aload_n dMo_readText_105 rfl rfl ?_
      refine MW.getr (r' := 199) hX dMo_readText_106 fMo_31 rfl rfl (by cases sw <;> rfl) ?_
      refine QW.iconst (v := 4) dMo_readText_109 (by decide) ?_
      refine QW.iload_n dMo_readText_110 rfl rfl ?_
      refine QW.iconst (v := 1) dMo_readText_111 (by decide) ?_
      refine QW.iadd dMo_readText_112 ?_
      refine MW.iast hX dMo_readText_113 rfl (show inx 4 5 from ⟨by decide, by decide⟩).1 (rep_get (show inx 4 5 from ⟨by decide, by decide⟩).2) ?_
      refine QW.aload_n dMo_readText_114 rfl rfl ?_
      refine MW.geti hX dMo_readText_115 fMo_135 rfl rfl ?_
      refine QW.if_ne (tgt := 123) dMo_readText_118 (by decide) (fun z2 => ?_) (fun z2 => ?_)
      · refine QW.iload_n dMo_readText_123 rfl rfl ?_
        refine QW.iconst (v := 2) dMo_readText_124 (by decide) ?_
        refine QW.icmp_ge (tgt := 168) dMo_readText_125 (by decide) (fun z3 => ?_) (fun z3 => ?_)
        · exact (k3 z0 z1 z2 z3)
        · refine QW.aload_n dMo_readText_128 rfl rfl ?_
          refine MW.getr (r' := 200) hX dMo_readText_129 fMo_34 rfl rfl (by cases sw <;> rfl) ?_
          refine QW.bipush (v := 8) dMo_readText_132 (by decide) ?_
          refine QW.iload_n dMo_readText_134 rfl rfl ?_
          refine QW.iadd dMo_readText_135 ?_
          refine QW.aload_n dMo_readText_136 rfl rfl ?_
          refine QW.bipush (v := 43) dMo_readText_137 (by decide) ?_
          exact MW.calV (as := [.int 43]) (rest := [.int (8 + a1), .ref 200]) hX dMo_readText_139 eMo_isIt lMo_151 iMo_isIt vMo_isIt rfl rfl rfl rfl rfl rfl (Nat.le_of_ble_eq_true rfl) rfl (k4 z0 z1 z2 z3)
      · refine QW.iconst (v := (-1)) dMo_readText_121 (by decide) ?_
        exact QW.iret dMo_readText_122 rfl rfl (k5 z0 z1 z2)
    · exact (k6 z0 z1)
theorem bMo_readText_81 {a1 : Int32} {a2 : Int32} (hX : X.length = 13) (k1 : (¬ (mem 193 9) = 0) → QW d mMo_readText 103 (lMo_readText_103 a1 a2) [] (hpo X mem sw o e) P) (k2 : ((mem 193 9) = 0) → (a2 < (mem 193 6)) → QW d mMo_readText 103 (lMo_readText_103 a1 a2) [] (hpo X mem sw o e) P) (k3 : ((mem 193 9) = 0) → (¬ a2 < (mem 193 6)) → P (.inl (some (.int (mem 193 6))), (hpo X mem sw o e))) : QW d mMo_readText 81 (lMo_readText_81 a1 a2) [] (hpo X mem sw o e) P := by
  show QW d mMo_readText 81 [.val (.ref 193), .val (.int a1), .val (.int a2)] [] (hpo X mem sw o e) P
  refine QW.aload_n dMo_readText_81 rfl rfl ?_
  refine MW.geti hX dMo_readText_82 fMo_135 rfl rfl ?_
  refine QW.if_ne (tgt := 103) dMo_readText_85 (by decide) (fun z0 => ?_) (fun z0 => ?_)
  · exact (k1 z0)
  · refine QW.iload_n dMo_readText_88 rfl rfl ?_
    refine QW.aload_n dMo_readText_89 rfl rfl ?_
    refine MW.geti hX dMo_readText_90 fMo_122 rfl rfl ?_
    refine QW.icmp_lt (tgt := 103) dMo_readText_93 (by decide) (fun z1 => ?_) (fun z1 => ?_)
    · exact (k2 z0 z1)
    · refine QW.aload_n dMo_readText_96 rfl rfl ?_
      refine MW.geti hX dMo_readText_97 fMo_122 rfl rfl ?_
      refine QW.goto (tgt := 104) dMo_readText_100 (by decide) ?_
      exact QW.iret dMo_readText_104 rfl rfl (k3 z0 z1)
theorem bMo_readText_103 {a1 : Int32} {a2 : Int32} (hX : X.length = 13) (k1 : P (.inl (some (.int a2)), (hpo X mem sw o e))) : QW d mMo_readText 103 (lMo_readText_103 a1 a2) [] (hpo X mem sw o e) P := by
  show QW d mMo_readText 103 [.val (.ref 193), .val (.int a1), .val (.int a2)] [] (hpo X mem sw o e) P
  refine QW.iload_n dMo_readText_103 rfl rfl ?_
  exact QW.iret dMo_readText_104 rfl rfl k1
theorem bMo_readText_142 {a1 : Int32} {a2 : Int32} {s2 : Int32} {s1 : Int32} (hX : X.length = 13) (k1 : (s2 = 0) → QW d mMo_isIt 0 (qen 2 [.ref 193, .int 45]) [] (hpo X mem sw o e) (qcl d mMo_readText 152 155 (lMo_readText_155 a1 a2) [.int s1, .ref 200] P)) (k2 : (¬ s2 = 0) → QW (d + 1) mMo_readText 163 (lMo_readText_163 a1 a2) [.int 0, .int s1, .ref 200] (hpo X mem sw o e) P) : QW (d + 1) mMo_readText 142 (lMo_readText_142 a1 a2) [.int s2, .int s1, .ref 200] (hpo X mem sw o e) P := by
  show QW (d + 1) mMo_readText 142 [.val (.ref 193), .val (.int a1), .val (.int a2)] [.int s2, .int s1, .ref 200] (hpo X mem sw o e) P
  refine QW.if_eq (tgt := 149) dMo_readText_142 (by decide) (fun z0 => ?_) (fun z0 => ?_)
  · refine QW.aload_n dMo_readText_149 rfl rfl ?_
    refine QW.bipush (v := 45) dMo_readText_150 (by decide) ?_
    exact MW.calV (as := [.int 45]) (rest := [.int s1, .ref 200]) hX dMo_readText_152 eMo_isIt lMo_151 iMo_isIt vMo_isIt rfl rfl rfl rfl rfl rfl (Nat.le_of_ble_eq_true rfl) rfl (k1 z0)
  · refine QW.iconst (v := 0) dMo_readText_145 (by decide) ?_
    refine QW.goto (tgt := 163) dMo_readText_146 (by decide) ?_
    exact (k2 z0)
theorem bMo_readText_155 {a1 : Int32} {a2 : Int32} {s2 : Int32} {s1 : Int32} (hX : X.length = 13) (k1 : (s2 = 0) → QW d mMo_readText 163 (lMo_readText_163 a1 a2) [.int 2, .int s1, .ref 200] (hpo X mem sw o e) P) (k2 : (¬ s2 = 0) → QW d mMo_readText 163 (lMo_readText_163 a1 a2) [.int 1, .int s1, .ref 200] (hpo X mem sw o e) P) : QW d mMo_readText 155 (lMo_readText_155 a1 a2) [.int s2, .int s1, .ref 200] (hpo X mem sw o e) P := by
  show QW d mMo_readText 155 [.val (.ref 193), .val (.int a1), .val (.int a2)] [.int s2, .int s1, .ref 200] (hpo X mem sw o e) P
  refine QW.if_eq (tgt := 162) dMo_readText_155 (by decide) (fun z0 => ?_) (fun z0 => ?_)
  · refine QW.iconst (v := 2) dMo_readText_162 (by decide) ?_
    exact (k1 z0)
  · refine QW.iconst (v := 1) dMo_readText_158 (by decide) ?_
    refine QW.goto (tgt := 163) dMo_readText_159 (by decide) ?_
    exact (k2 z0)
theorem bMo_readText_163 {a1 : Int32} {a2 : Int32} {s2 : Int32} {s1 : Int32} (hX : X.length = 13) (h1 : inx s1 10) (k2 : QW d mMo_next 0 (qen 2 [.ref 193]) [] (hpo X (mup mem 200 (Int32.toNatClampNeg s1) s2) sw o e) (qcl d mMo_readText 165 168 (lMo_readText_168 a1 a2) [] P)) : QW (d + 1) mMo_readText 163 (lMo_readText_163 a1 a2) [.int s2, .int s1, .ref 200] (hpo X mem sw o e) P := by
  show QW (d + 1) mMo_readText 163 [.val (.ref 193), .val (.int a1), .val (.int a2)] [.int s2, .int s1, .ref 200] (hpo X mem sw o e) P
  refine MW.iast hX dMo_readText_163 rfl h1.1 (rep_get h1.2) ?_
  refine QW.aload_n dMo_readText_164 rfl rfl ?_
  exact MW.calV (as := []) (rest := []) hX dMo_readText_165 eMo_next lMo_154 iMo_next vMo_next rfl rfl rfl rfl rfl rfl (Nat.le_of_ble_eq_true rfl) rfl k2
theorem bMo_readText_168 {a1 : Int32} {a2 : Int32} (hX : X.length = 13) (k1 : QW d mMo_readText 11 (lMo_readText_11 (a1 + 1) (.val (.int a2))) [] (hpo X mem sw o e) P) : QW d mMo_readText 168 (lMo_readText_168 a1 a2) [] (hpo X mem sw o e) P := by
  show QW d mMo_readText 168 [.val (.ref 193), .val (.int a1), .val (.int a2)] [] (hpo X mem sw o e) P
  refine MW.iinc (c := 1) (ls' := [.val (.ref 193), .val (.int (a1 + 1)), .val (.int a2)]) dMo_readText_168 (by decide) rfl rfl ?_
  refine QW.goto (tgt := 11) dMo_readText_171 (by decide) ?_
  exact k1
theorem dMo_copyBlock_0 : decode mMo_copyBlock.2.1 0 = .ok (.aload_n 0, 1) := by decide +kernel
theorem dMo_copyBlock_1 : decode mMo_copyBlock.2.1 1 = .ok (.getfield 37, 3) := by decide +kernel
theorem dMo_copyBlock_4 : decode mMo_copyBlock.2.1 4 = .ok (.iload_n 2, 1) := by decide +kernel
theorem dMo_copyBlock_5 : decode mMo_copyBlock.2.1 5 = .ok (.aload_n 0, 1) := by decide +kernel
theorem dMo_copyBlock_6 : decode mMo_copyBlock.2.1 6 = .ok (.getfield 37, 3) := by decide +kernel
theorem dMo_copyBlock_9 : decode mMo_copyBlock.2.1 9 = .ok (.iload_n 1, 1) := by decide +kernel
theorem dMo_copyBlock_10 : decode mMo_copyBlock.2.1 10 = .ok (.baload, 1) := by decide +kernel
theorem dMo_copyBlock_11 : decode mMo_copyBlock.2.1 11 = .ok (.bastore, 1) := by decide +kernel
theorem dMo_copyBlock_12 : decode mMo_copyBlock.2.1 12 = .ok (.aload_n 0, 1) := by decide +kernel
theorem dMo_copyBlock_13 : decode mMo_copyBlock.2.1 13 = .ok (.getfield 40, 3) := by decide +kernel
theorem dMo_copyBlock_16 : decode mMo_copyBlock.2.1 16 = .ok (.iload_n 2, 1) := by decide +kernel
theorem dMo_copyBlock_17 : decode mMo_copyBlock.2.1 17 = .ok (.aload_n 0, 1) := by decide +kernel
theorem dMo_copyBlock_18 : decode mMo_copyBlock.2.1 18 = .ok (.getfield 40, 3) := by decide +kernel
theorem dMo_copyBlock_21 : decode mMo_copyBlock.2.1 21 = .ok (.iload_n 1, 1) := by decide +kernel
theorem dMo_copyBlock_22 : decode mMo_copyBlock.2.1 22 = .ok (.iaload, 1) := by decide +kernel
theorem dMo_copyBlock_23 : decode mMo_copyBlock.2.1 23 = .ok (.iastore, 1) := by decide +kernel
theorem dMo_copyBlock_24 : decode mMo_copyBlock.2.1 24 = .ok (.aload_n 0, 1) := by decide +kernel
theorem dMo_copyBlock_25 : decode mMo_copyBlock.2.1 25 = .ok (.getfield 46, 3) := by decide +kernel
theorem dMo_copyBlock_28 : decode mMo_copyBlock.2.1 28 = .ok (.iload_n 2, 1) := by decide +kernel
theorem dMo_copyBlock_29 : decode mMo_copyBlock.2.1 29 = .ok (.aload_n 0, 1) := by decide +kernel
theorem dMo_copyBlock_30 : decode mMo_copyBlock.2.1 30 = .ok (.getfield 46, 3) := by decide +kernel
theorem dMo_copyBlock_33 : decode mMo_copyBlock.2.1 33 = .ok (.iload_n 1, 1) := by decide +kernel
theorem dMo_copyBlock_34 : decode mMo_copyBlock.2.1 34 = .ok (.iaload, 1) := by decide +kernel
theorem dMo_copyBlock_35 : decode mMo_copyBlock.2.1 35 = .ok (.iastore, 1) := by decide +kernel
theorem dMo_copyBlock_36 : decode mMo_copyBlock.2.1 36 = .ok (.aload_n 0, 1) := by decide +kernel
theorem dMo_copyBlock_37 : decode mMo_copyBlock.2.1 37 = .ok (.getfield 55, 3) := by decide +kernel
theorem dMo_copyBlock_40 : decode mMo_copyBlock.2.1 40 = .ok (.iload_n 2, 1) := by decide +kernel
theorem dMo_copyBlock_41 : decode mMo_copyBlock.2.1 41 = .ok (.aload_n 0, 1) := by decide +kernel
theorem dMo_copyBlock_42 : decode mMo_copyBlock.2.1 42 = .ok (.getfield 55, 3) := by decide +kernel
theorem dMo_copyBlock_45 : decode mMo_copyBlock.2.1 45 = .ok (.iload_n 1, 1) := by decide +kernel
theorem dMo_copyBlock_46 : decode mMo_copyBlock.2.1 46 = .ok (.iaload, 1) := by decide +kernel
theorem dMo_copyBlock_47 : decode mMo_copyBlock.2.1 47 = .ok (.iastore, 1) := by decide +kernel
theorem dMo_copyBlock_48 : decode mMo_copyBlock.2.1 48 = .ok (.iconst 0, 1) := by decide +kernel
theorem dMo_copyBlock_49 : decode mMo_copyBlock.2.1 49 = .ok (.istore_n 3, 1) := by decide +kernel
theorem dMo_copyBlock_50 : decode mMo_copyBlock.2.1 50 = .ok (.iload_n 3, 1) := by decide +kernel
theorem dMo_copyBlock_51 : decode mMo_copyBlock.2.1 51 = .ok (.iconst 3, 1) := by decide +kernel
theorem dMo_copyBlock_52 : decode mMo_copyBlock.2.1 52 = .ok (.if_icmp .ge 29, 3) := by decide +kernel
theorem dMo_copyBlock_55 : decode mMo_copyBlock.2.1 55 = .ok (.aload_n 0, 1) := by decide +kernel
theorem dMo_copyBlock_56 : decode mMo_copyBlock.2.1 56 = .ok (.getfield 43, 3) := by decide +kernel
theorem dMo_copyBlock_59 : decode mMo_copyBlock.2.1 59 = .ok (.iconst 3, 1) := by decide +kernel
theorem dMo_copyBlock_60 : decode mMo_copyBlock.2.1 60 = .ok (.iload_n 2, 1) := by decide +kernel
theorem dMo_copyBlock_61 : decode mMo_copyBlock.2.1 61 = .ok (.imul, 1) := by decide +kernel
theorem dMo_copyBlock_62 : decode mMo_copyBlock.2.1 62 = .ok (.iload_n 3, 1) := by decide +kernel
theorem dMo_copyBlock_63 : decode mMo_copyBlock.2.1 63 = .ok (.iadd, 1) := by decide +kernel
theorem dMo_copyBlock_64 : decode mMo_copyBlock.2.1 64 = .ok (.aload_n 0, 1) := by decide +kernel
theorem dMo_copyBlock_65 : decode mMo_copyBlock.2.1 65 = .ok (.getfield 43, 3) := by decide +kernel
theorem dMo_copyBlock_68 : decode mMo_copyBlock.2.1 68 = .ok (.iconst 3, 1) := by decide +kernel
theorem dMo_copyBlock_69 : decode mMo_copyBlock.2.1 69 = .ok (.iload_n 1, 1) := by decide +kernel
theorem dMo_copyBlock_70 : decode mMo_copyBlock.2.1 70 = .ok (.imul, 1) := by decide +kernel
theorem dMo_copyBlock_71 : decode mMo_copyBlock.2.1 71 = .ok (.iload_n 3, 1) := by decide +kernel
theorem dMo_copyBlock_72 : decode mMo_copyBlock.2.1 72 = .ok (.iadd, 1) := by decide +kernel
theorem dMo_copyBlock_73 : decode mMo_copyBlock.2.1 73 = .ok (.iaload, 1) := by decide +kernel
theorem dMo_copyBlock_74 : decode mMo_copyBlock.2.1 74 = .ok (.iastore, 1) := by decide +kernel
theorem dMo_copyBlock_75 : decode mMo_copyBlock.2.1 75 = .ok (.iinc 3 1, 3) := by decide +kernel
theorem dMo_copyBlock_78 : decode mMo_copyBlock.2.1 78 = .ok (.goto (-28), 3) := by decide +kernel
theorem dMo_copyBlock_81 : decode mMo_copyBlock.2.1 81 = .ok (.iconst 0, 1) := by decide +kernel
theorem dMo_copyBlock_82 : decode mMo_copyBlock.2.1 82 = .ok (.istore_n 3, 1) := by decide +kernel
theorem dMo_copyBlock_83 : decode mMo_copyBlock.2.1 83 = .ok (.iload_n 3, 1) := by decide +kernel
theorem dMo_copyBlock_84 : decode mMo_copyBlock.2.1 84 = .ok (.iconst 4, 1) := by decide +kernel
theorem dMo_copyBlock_85 : decode mMo_copyBlock.2.1 85 = .ok (.if_icmp .ge 29, 3) := by decide +kernel
theorem dMo_copyBlock_88 : decode mMo_copyBlock.2.1 88 = .ok (.aload_n 0, 1) := by decide +kernel
theorem dMo_copyBlock_89 : decode mMo_copyBlock.2.1 89 = .ok (.getfield 49, 3) := by decide +kernel
theorem dMo_copyBlock_92 : decode mMo_copyBlock.2.1 92 = .ok (.iconst 4, 1) := by decide +kernel
theorem dMo_copyBlock_93 : decode mMo_copyBlock.2.1 93 = .ok (.iload_n 2, 1) := by decide +kernel
theorem dMo_copyBlock_94 : decode mMo_copyBlock.2.1 94 = .ok (.imul, 1) := by decide +kernel
theorem dMo_copyBlock_95 : decode mMo_copyBlock.2.1 95 = .ok (.iload_n 3, 1) := by decide +kernel
theorem dMo_copyBlock_96 : decode mMo_copyBlock.2.1 96 = .ok (.iadd, 1) := by decide +kernel
theorem dMo_copyBlock_97 : decode mMo_copyBlock.2.1 97 = .ok (.aload_n 0, 1) := by decide +kernel
theorem dMo_copyBlock_98 : decode mMo_copyBlock.2.1 98 = .ok (.getfield 49, 3) := by decide +kernel
theorem dMo_copyBlock_101 : decode mMo_copyBlock.2.1 101 = .ok (.iconst 4, 1) := by decide +kernel
theorem dMo_copyBlock_102 : decode mMo_copyBlock.2.1 102 = .ok (.iload_n 1, 1) := by decide +kernel
theorem dMo_copyBlock_103 : decode mMo_copyBlock.2.1 103 = .ok (.imul, 1) := by decide +kernel
theorem dMo_copyBlock_104 : decode mMo_copyBlock.2.1 104 = .ok (.iload_n 3, 1) := by decide +kernel
theorem dMo_copyBlock_105 : decode mMo_copyBlock.2.1 105 = .ok (.iadd, 1) := by decide +kernel
theorem dMo_copyBlock_106 : decode mMo_copyBlock.2.1 106 = .ok (.iaload, 1) := by decide +kernel
theorem dMo_copyBlock_107 : decode mMo_copyBlock.2.1 107 = .ok (.iastore, 1) := by decide +kernel
theorem dMo_copyBlock_108 : decode mMo_copyBlock.2.1 108 = .ok (.iinc 3 1, 3) := by decide +kernel
theorem dMo_copyBlock_111 : decode mMo_copyBlock.2.1 111 = .ok (.goto (-28), 3) := by decide +kernel
theorem dMo_copyBlock_114 : decode mMo_copyBlock.2.1 114 = .ok (.iconst 0, 1) := by decide +kernel
theorem dMo_copyBlock_115 : decode mMo_copyBlock.2.1 115 = .ok (.istore_n 3, 1) := by decide +kernel
theorem dMo_copyBlock_116 : decode mMo_copyBlock.2.1 116 = .ok (.iload_n 3, 1) := by decide +kernel
theorem dMo_copyBlock_117 : decode mMo_copyBlock.2.1 117 = .ok (.bipush 6, 2) := by decide +kernel
theorem dMo_copyBlock_119 : decode mMo_copyBlock.2.1 119 = .ok (.if_icmp .ge 75, 3) := by decide +kernel
theorem dMo_copyBlock_122 : decode mMo_copyBlock.2.1 122 = .ok (.aload_n 0, 1) := by decide +kernel
theorem dMo_copyBlock_123 : decode mMo_copyBlock.2.1 123 = .ok (.getfield 58, 3) := by decide +kernel
theorem dMo_copyBlock_126 : decode mMo_copyBlock.2.1 126 = .ok (.bipush 6, 2) := by decide +kernel
theorem dMo_copyBlock_128 : decode mMo_copyBlock.2.1 128 = .ok (.iload_n 2, 1) := by decide +kernel
theorem dMo_copyBlock_129 : decode mMo_copyBlock.2.1 129 = .ok (.imul, 1) := by decide +kernel
theorem dMo_copyBlock_130 : decode mMo_copyBlock.2.1 130 = .ok (.iload_n 3, 1) := by decide +kernel
theorem dMo_copyBlock_131 : decode mMo_copyBlock.2.1 131 = .ok (.iadd, 1) := by decide +kernel
theorem dMo_copyBlock_132 : decode mMo_copyBlock.2.1 132 = .ok (.aload_n 0, 1) := by decide +kernel
theorem dMo_copyBlock_133 : decode mMo_copyBlock.2.1 133 = .ok (.getfield 58, 3) := by decide +kernel
theorem dMo_copyBlock_136 : decode mMo_copyBlock.2.1 136 = .ok (.bipush 6, 2) := by decide +kernel
theorem dMo_copyBlock_138 : decode mMo_copyBlock.2.1 138 = .ok (.iload_n 1, 1) := by decide +kernel
theorem dMo_copyBlock_139 : decode mMo_copyBlock.2.1 139 = .ok (.imul, 1) := by decide +kernel
theorem dMo_copyBlock_140 : decode mMo_copyBlock.2.1 140 = .ok (.iload_n 3, 1) := by decide +kernel
theorem dMo_copyBlock_141 : decode mMo_copyBlock.2.1 141 = .ok (.iadd, 1) := by decide +kernel
theorem dMo_copyBlock_142 : decode mMo_copyBlock.2.1 142 = .ok (.iaload, 1) := by decide +kernel
theorem dMo_copyBlock_143 : decode mMo_copyBlock.2.1 143 = .ok (.iastore, 1) := by decide +kernel
theorem dMo_copyBlock_144 : decode mMo_copyBlock.2.1 144 = .ok (.aload_n 0, 1) := by decide +kernel
theorem dMo_copyBlock_145 : decode mMo_copyBlock.2.1 145 = .ok (.getfield 61, 3) := by decide +kernel
theorem dMo_copyBlock_148 : decode mMo_copyBlock.2.1 148 = .ok (.bipush 6, 2) := by decide +kernel
theorem dMo_copyBlock_150 : decode mMo_copyBlock.2.1 150 = .ok (.iload_n 2, 1) := by decide +kernel
theorem dMo_copyBlock_151 : decode mMo_copyBlock.2.1 151 = .ok (.imul, 1) := by decide +kernel
theorem dMo_copyBlock_152 : decode mMo_copyBlock.2.1 152 = .ok (.iload_n 3, 1) := by decide +kernel
theorem dMo_copyBlock_153 : decode mMo_copyBlock.2.1 153 = .ok (.iadd, 1) := by decide +kernel
theorem dMo_copyBlock_154 : decode mMo_copyBlock.2.1 154 = .ok (.aload_n 0, 1) := by decide +kernel
theorem dMo_copyBlock_155 : decode mMo_copyBlock.2.1 155 = .ok (.getfield 61, 3) := by decide +kernel
theorem dMo_copyBlock_158 : decode mMo_copyBlock.2.1 158 = .ok (.bipush 6, 2) := by decide +kernel
theorem dMo_copyBlock_160 : decode mMo_copyBlock.2.1 160 = .ok (.iload_n 1, 1) := by decide +kernel
theorem dMo_copyBlock_161 : decode mMo_copyBlock.2.1 161 = .ok (.imul, 1) := by decide +kernel
theorem dMo_copyBlock_162 : decode mMo_copyBlock.2.1 162 = .ok (.iload_n 3, 1) := by decide +kernel
theorem dMo_copyBlock_163 : decode mMo_copyBlock.2.1 163 = .ok (.iadd, 1) := by decide +kernel
theorem dMo_copyBlock_164 : decode mMo_copyBlock.2.1 164 = .ok (.iaload, 1) := by decide +kernel
theorem dMo_copyBlock_165 : decode mMo_copyBlock.2.1 165 = .ok (.iastore, 1) := by decide +kernel
theorem dMo_copyBlock_166 : decode mMo_copyBlock.2.1 166 = .ok (.aload_n 0, 1) := by decide +kernel
theorem dMo_copyBlock_167 : decode mMo_copyBlock.2.1 167 = .ok (.getfield 64, 3) := by decide +kernel
theorem dMo_copyBlock_170 : decode mMo_copyBlock.2.1 170 = .ok (.bipush 6, 2) := by decide +kernel
theorem dMo_copyBlock_172 : decode mMo_copyBlock.2.1 172 = .ok (.iload_n 2, 1) := by decide +kernel
theorem dMo_copyBlock_173 : decode mMo_copyBlock.2.1 173 = .ok (.imul, 1) := by decide +kernel
theorem dMo_copyBlock_174 : decode mMo_copyBlock.2.1 174 = .ok (.iload_n 3, 1) := by decide +kernel
theorem dMo_copyBlock_175 : decode mMo_copyBlock.2.1 175 = .ok (.iadd, 1) := by decide +kernel
theorem dMo_copyBlock_176 : decode mMo_copyBlock.2.1 176 = .ok (.aload_n 0, 1) := by decide +kernel
theorem dMo_copyBlock_177 : decode mMo_copyBlock.2.1 177 = .ok (.getfield 64, 3) := by decide +kernel
theorem dMo_copyBlock_180 : decode mMo_copyBlock.2.1 180 = .ok (.bipush 6, 2) := by decide +kernel
theorem dMo_copyBlock_182 : decode mMo_copyBlock.2.1 182 = .ok (.iload_n 1, 1) := by decide +kernel
theorem dMo_copyBlock_183 : decode mMo_copyBlock.2.1 183 = .ok (.imul, 1) := by decide +kernel
theorem dMo_copyBlock_184 : decode mMo_copyBlock.2.1 184 = .ok (.iload_n 3, 1) := by decide +kernel
theorem dMo_copyBlock_185 : decode mMo_copyBlock.2.1 185 = .ok (.iadd, 1) := by decide +kernel
theorem dMo_copyBlock_186 : decode mMo_copyBlock.2.1 186 = .ok (.baload, 1) := by decide +kernel
theorem dMo_copyBlock_187 : decode mMo_copyBlock.2.1 187 = .ok (.bastore, 1) := by decide +kernel
theorem dMo_copyBlock_188 : decode mMo_copyBlock.2.1 188 = .ok (.iinc 3 1, 3) := by decide +kernel
theorem dMo_copyBlock_191 : decode mMo_copyBlock.2.1 191 = .ok (.goto (-75), 3) := by decide +kernel
theorem dMo_copyBlock_194 : decode mMo_copyBlock.2.1 194 = .ok (.return_, 1) := by decide +kernel
def lMo_copyBlock_50 (a1 : Int32) (a2 : Int32) (a3 : Int32) : List Slot := [.val (.ref 193), .val (.int a1), .val (.int a2), .val (.int a3)]
def lMo_copyBlock_83 (a1 : Int32) (a2 : Int32) (a3 : Int32) : List Slot := [.val (.ref 193), .val (.int a1), .val (.int a2), .val (.int a3)]
def lMo_copyBlock_116 (a1 : Int32) (a2 : Int32) (a3 : Int32) : List Slot := [.val (.ref 193), .val (.int a1), .val (.int a2), .val (.int a3)]
theorem bMo_copyBlock_0 {a1 : Int32} {a2 : Int32} (hX : X.length = 13) (h1 : inx a1 15) (h2 : inx a2 15) (h3 : narrow .boolean (.int (mem 201 (Int32.toNatClampNeg a1))) = .int (mem 201 (Int32.toNatClampNeg a1))) (h4 : inx a1 15) (h5 : inx a2 15) (h6 : inx a1 15) (h7 : inx a2 15) (h8 : inx a1 15) (h9 : inx a2 15) (k10 : QW d mMo_copyBlock 50 (lMo_copyBlock_50 a1 a2 0) [] (hpo X (mup (mup (mup (mup mem 201 (Int32.toNatClampNeg a2) (mem 201 (Int32.toNatClampNeg a1))) 202 (Int32.toNatClampNeg a2) ((mup mem 201 (Int32.toNatClampNeg a2) (mem 201 (Int32.toNatClampNeg a1))) 202 (Int32.toNatClampNeg a1))) 204 (Int32.toNatClampNeg a2) ((mup (mup mem 201 (Int32.toNatClampNeg a2) (mem 201 (Int32.toNatClampNeg a1))) 202 (Int32.toNatClampNeg a2) ((mup mem 201 (Int32.toNatClampNeg a2) (mem 201 (Int32.toNatClampNeg a1))) 202 (Int32.toNatClampNeg a1))) 204 (Int32.toNatClampNeg a1))) 207 (Int32.toNatClampNeg a2) ((mup (mup (mup mem 201 (Int32.toNatClampNeg a2) (mem 201 (Int32.toNatClampNeg a1))) 202 (Int32.toNatClampNeg a2) ((mup mem 201 (Int32.toNatClampNeg a2) (mem 201 (Int32.toNatClampNeg a1))) 202 (Int32.toNatClampNeg a1))) 204 (Int32.toNatClampNeg a2) ((mup (mup mem 201 (Int32.toNatClampNeg a2) (mem 201 (Int32.toNatClampNeg a1))) 202 (Int32.toNatClampNeg a2) ((mup mem 201 (Int32.toNatClampNeg a2) (mem 201 (Int32.toNatClampNeg a1))) 202 (Int32.toNatClampNeg a1))) 204 (Int32.toNatClampNeg a1))) 207 (Int32.toNatClampNeg a1))) sw o e) P) : QW d mMo_copyBlock 0 (qen 4 [.ref 193, .int a1, .int a2]) [] (hpo X mem sw o e) P := by
  show QW d mMo_copyBlock 0 [.val (.ref 193), .val (.int a1), .val (.int a2), .unset] [] (hpo X mem sw o e) P
  refine QW.aload_n dMo_copyBlock_0 rfl rfl ?_
  refine MW.getr (r' := 201) hX dMo_copyBlock_1 fMo_37 rfl rfl (by cases sw <;> rfl) ?_
  refine QW.iload_n dMo_copyBlock_4 rfl rfl ?_
  refine QW.aload_n dMo_copyBlock_5 rfl rfl ?_
  refine MW.getr (r' := 201) hX dMo_copyBlock_6 fMo_37 rfl rfl (by cases sw <;> rfl) ?_
  refine QW.iload_n dMo_copyBlock_9 rfl rfl ?_
  refine MW.zald hX dMo_copyBlock_10 rfl h1.1 (rep_get h1.2) ?_
  refine MW.zast hX dMo_copyBlock_11 rfl h2.1 (rep_get h2.2) h3 ?_
  refine QW.aload_n dMo_copyBlock_12 rfl rfl ?_
  refine MW.getr (r' := 202) hX dMo_copyBlock_13 fMo_40 rfl rfl (by cases sw <;> rfl) ?_
  refine QW.iload_n dMo_copyBlock_16 rfl rfl ?_
  refine QW.aload_n dMo_copyBlock_17 rfl rfl ?_
  refine MW.getr (r' := 202) hX dMo_copyBlock_18 fMo_40 rfl rfl (by cases sw <;> rfl) ?_
  refine QW.iload_n dMo_copyBlock_21 rfl rfl ?_
  refine MW.iald hX dMo_copyBlock_22 rfl h4.1 (rep_get h4.2) ?_
  refine MW.iast hX dMo_copyBlock_23 rfl h5.1 (rep_get h5.2) ?_
  refine QW.aload_n dMo_copyBlock_24 rfl rfl ?_
  refine MW.getr (r' := 204) hX dMo_copyBlock_25 fMo_46 rfl rfl (by cases sw <;> rfl) ?_
  refine QW.iload_n dMo_copyBlock_28 rfl rfl ?_
  refine QW.aload_n dMo_copyBlock_29 rfl rfl ?_
  refine MW.getr (r' := 204) hX dMo_copyBlock_30 fMo_46 rfl rfl (by cases sw <;> rfl) ?_
  refine QW.iload_n dMo_copyBlock_33 rfl rfl ?_
  refine MW.iald hX dMo_copyBlock_34 rfl h6.1 (rep_get h6.2) ?_
  refine MW.iast hX dMo_copyBlock_35 rfl h7.1 (rep_get h7.2) ?_
  refine QW.aload_n dMo_copyBlock_36 rfl rfl ?_
  refine MW.getr (r' := 207) hX dMo_copyBlock_37 fMo_55 rfl rfl (by cases sw <;> rfl) ?_
  refine QW.iload_n dMo_copyBlock_40 rfl rfl ?_
  refine QW.aload_n dMo_copyBlock_41 rfl rfl ?_
  refine MW.getr (r' := 207) hX dMo_copyBlock_42 fMo_55 rfl rfl (by cases sw <;> rfl) ?_
  refine QW.iload_n dMo_copyBlock_45 rfl rfl ?_
  refine MW.iald hX dMo_copyBlock_46 rfl h8.1 (rep_get h8.2) ?_
  refine MW.iast hX dMo_copyBlock_47 rfl h9.1 (rep_get h9.2) ?_
  refine QW.iconst (v := 0) dMo_copyBlock_48 (by decide) ?_
  refine QW.istore_n (ls' := [.val (.ref 193), .val (.int a1), .val (.int a2), .val (.int 0)]) dMo_copyBlock_49 rfl rfl ?_
  exact k10
theorem bMo_copyBlock_50 {a1 : Int32} {a2 : Int32} {a3 : Int32} (hX : X.length = 13) (k1 : (3 ≤ a3) → QW d mMo_copyBlock 83 (lMo_copyBlock_83 a1 a2 0) [] (hpo X mem sw o e) P) (h2 : (¬ 3 ≤ a3) → inx ((3 * a1) + a3) 45) (h3 : (¬ 3 ≤ a3) → inx ((3 * a2) + a3) 45) (k4 : (¬ 3 ≤ a3) → QW d mMo_copyBlock 50 (lMo_copyBlock_50 a1 a2 (a3 + 1)) [] (hpo X (mup mem 203 (Int32.toNatClampNeg ((3 * a2) + a3)) (mem 203 (Int32.toNatClampNeg ((3 * a1) + a3)))) sw o e) P) : QW d mMo_copyBlock 50 (lMo_copyBlock_50 a1 a2 a3) [] (hpo X mem sw o e) P := by
  show QW d mMo_copyBlock 50 [.val (.ref 193), .val (.int a1), .val (.int a2), .val (.int a3)] [] (hpo X mem sw o e) P
  refine QW.iload_n dMo_copyBlock_50 rfl rfl ?_
  refine QW.iconst (v := 3) dMo_copyBlock_51 (by decide) ?_
  refine QW.icmp_ge (tgt := 81) dMo_copyBlock_52 (by decide) (fun z0 => ?_) (fun z0 => ?_)
  · refine QW.iconst (v := 0) dMo_copyBlock_81 (by decide) ?_
    refine QW.istore_n (ls' := [.val (.ref 193), .val (.int a1), .val (.int a2), .val (.int 0)]) dMo_copyBlock_82 rfl rfl ?_
    exact (k1 z0)
  · refine QW.aload_n dMo_copyBlock_55 rfl rfl ?_
    refine MW.getr (r' := 203) hX dMo_copyBlock_56 fMo_43 rfl rfl (by cases sw <;> rfl) ?_
    refine QW.iconst (v := 3) dMo_copyBlock_59 (by decide) ?_
    refine QW.iload_n dMo_copyBlock_60 rfl rfl ?_
    refine QW.imul dMo_copyBlock_61 ?_
    refine QW.iload_n dMo_copyBlock_62 rfl rfl ?_
    refine QW.iadd dMo_copyBlock_63 ?_
    refine QW.aload_n dMo_copyBlock_64 rfl rfl ?_
    refine MW.getr (r' := 203) hX dMo_copyBlock_65 fMo_43 rfl rfl (by cases sw <;> rfl) ?_
    refine QW.iconst (v := 3) dMo_copyBlock_68 (by decide) ?_
    refine QW.iload_n dMo_copyBlock_69 rfl rfl ?_
    refine QW.imul dMo_copyBlock_70 ?_
    refine QW.iload_n dMo_copyBlock_71 rfl rfl ?_
    refine QW.iadd dMo_copyBlock_72 ?_
    refine MW.iald hX dMo_copyBlock_73 rfl (h2 z0).1 (rep_get (h2 z0).2) ?_
    refine MW.iast hX dMo_copyBlock_74 rfl (h3 z0).1 (rep_get (h3 z0).2) ?_
    refine MW.iinc (c := 1) (ls' := [.val (.ref 193), .val (.int a1), .val (.int a2), .val (.int (a3 + 1))]) dMo_copyBlock_75 (by decide) rfl rfl ?_
    refine QW.goto (tgt := 50) dMo_copyBlock_78 (by decide) ?_
    exact (k4 z0)
theorem bMo_copyBlock_83 {a1 : Int32} {a2 : Int32} {a3 : Int32} (hX : X.length = 13) (k1 : (4 ≤ a3) → QW d mMo_copyBlock 116 (lMo_copyBlock_116 a1 a2 0) [] (hpo X mem sw o e) P) (h2 : (¬ 4 ≤ a3) → inx ((4 * a1) + a3) 60) (h3 : (¬ 4 ≤ a3) → inx ((4 * a2) + a3) 60) (k4 : (¬ 4 ≤ a3) → QW d mMo_copyBlock 83 (lMo_copyBlock_83 a1 a2 (a3 + 1)) [] (hpo X (mup mem 205 (Int32.toNatClampNeg ((4 * a2) + a3)) (mem 205 (Int32.toNatClampNeg ((4 * a1) + a3)))) sw o e) P) : QW d mMo_copyBlock 83 (lMo_copyBlock_83 a1 a2 a3) [] (hpo X mem sw o e) P := by
  show QW d mMo_copyBlock 83 [.val (.ref 193), .val (.int a1), .val (.int a2), .val (.int a3)] [] (hpo X mem sw o e) P
  refine QW.iload_n dMo_copyBlock_83 rfl rfl ?_
  refine QW.iconst (v := 4) dMo_copyBlock_84 (by decide) ?_
  refine QW.icmp_ge (tgt := 114) dMo_copyBlock_85 (by decide) (fun z0 => ?_) (fun z0 => ?_)
  · refine QW.iconst (v := 0) dMo_copyBlock_114 (by decide) ?_
    refine QW.istore_n (ls' := [.val (.ref 193), .val (.int a1), .val (.int a2), .val (.int 0)]) dMo_copyBlock_115 rfl rfl ?_
    exact (k1 z0)
  · refine QW.aload_n dMo_copyBlock_88 rfl rfl ?_
    refine MW.getr (r' := 205) hX dMo_copyBlock_89 fMo_49 rfl rfl (by cases sw <;> rfl) ?_
    refine QW.iconst (v := 4) dMo_copyBlock_92 (by decide) ?_
    refine QW.iload_n dMo_copyBlock_93 rfl rfl ?_
    refine QW.imul dMo_copyBlock_94 ?_
    refine QW.iload_n dMo_copyBlock_95 rfl rfl ?_
    refine QW.iadd dMo_copyBlock_96 ?_
    refine QW.aload_n dMo_copyBlock_97 rfl rfl ?_
    refine MW.getr (r' := 205) hX dMo_copyBlock_98 fMo_49 rfl rfl (by cases sw <;> rfl) ?_
    refine QW.iconst (v := 4) dMo_copyBlock_101 (by decide) ?_
    refine QW.iload_n dMo_copyBlock_102 rfl rfl ?_
    refine QW.imul dMo_copyBlock_103 ?_
    refine QW.iload_n dMo_copyBlock_104 rfl rfl ?_
    refine QW.iadd dMo_copyBlock_105 ?_
    refine MW.iald hX dMo_copyBlock_106 rfl (h2 z0).1 (rep_get (h2 z0).2) ?_
    refine MW.iast hX dMo_copyBlock_107 rfl (h3 z0).1 (rep_get (h3 z0).2) ?_
    refine MW.iinc (c := 1) (ls' := [.val (.ref 193), .val (.int a1), .val (.int a2), .val (.int (a3 + 1))]) dMo_copyBlock_108 (by decide) rfl rfl ?_
    refine QW.goto (tgt := 83) dMo_copyBlock_111 (by decide) ?_
    exact (k4 z0)
theorem bMo_copyBlock_116 {a1 : Int32} {a2 : Int32} {a3 : Int32} (hX : X.length = 13) (k1 : (6 ≤ a3) → P (.inl none, (hpo X mem sw o e))) (h2 : (¬ 6 ≤ a3) → inx ((6 * a1) + a3) 90) (h3 : (¬ 6 ≤ a3) → inx ((6 * a2) + a3) 90) (h4 : (¬ 6 ≤ a3) → inx ((6 * a1) + a3) 90) (h5 : (¬ 6 ≤ a3) → inx ((6 * a2) + a3) 90) (h6 : (¬ 6 ≤ a3) → inx ((6 * a1) + a3) 90) (h7 : (¬ 6 ≤ a3) → inx ((6 * a2) + a3) 90) (h8 : (¬ 6 ≤ a3) → narrow .boolean (.int ((mup (mup mem 208 (Int32.toNatClampNeg ((6 * a2) + a3)) (mem 208 (Int32.toNatClampNeg ((6 * a1) + a3)))) 209 (Int32.toNatClampNeg ((6 * a2) + a3)) ((mup mem 208 (Int32.toNatClampNeg ((6 * a2) + a3)) (mem 208 (Int32.toNatClampNeg ((6 * a1) + a3)))) 209 (Int32.toNatClampNeg ((6 * a1) + a3)))) 210 (Int32.toNatClampNeg ((6 * a1) + a3)))) = .int ((mup (mup mem 208 (Int32.toNatClampNeg ((6 * a2) + a3)) (mem 208 (Int32.toNatClampNeg ((6 * a1) + a3)))) 209 (Int32.toNatClampNeg ((6 * a2) + a3)) ((mup mem 208 (Int32.toNatClampNeg ((6 * a2) + a3)) (mem 208 (Int32.toNatClampNeg ((6 * a1) + a3)))) 209 (Int32.toNatClampNeg ((6 * a1) + a3)))) 210 (Int32.toNatClampNeg ((6 * a1) + a3)))) (k9 : (¬ 6 ≤ a3) → QW d mMo_copyBlock 116 (lMo_copyBlock_116 a1 a2 (a3 + 1)) [] (hpo X (mup (mup (mup mem 208 (Int32.toNatClampNeg ((6 * a2) + a3)) (mem 208 (Int32.toNatClampNeg ((6 * a1) + a3)))) 209 (Int32.toNatClampNeg ((6 * a2) + a3)) ((mup mem 208 (Int32.toNatClampNeg ((6 * a2) + a3)) (mem 208 (Int32.toNatClampNeg ((6 * a1) + a3)))) 209 (Int32.toNatClampNeg ((6 * a1) + a3)))) 210 (Int32.toNatClampNeg ((6 * a2) + a3)) ((mup (mup mem 208 (Int32.toNatClampNeg ((6 * a2) + a3)) (mem 208 (Int32.toNatClampNeg ((6 * a1) + a3)))) 209 (Int32.toNatClampNeg ((6 * a2) + a3)) ((mup mem 208 (Int32.toNatClampNeg ((6 * a2) + a3)) (mem 208 (Int32.toNatClampNeg ((6 * a1) + a3)))) 209 (Int32.toNatClampNeg ((6 * a1) + a3)))) 210 (Int32.toNatClampNeg ((6 * a1) + a3)))) sw o e) P) : QW d mMo_copyBlock 116 (lMo_copyBlock_116 a1 a2 a3) [] (hpo X mem sw o e) P := by
  show QW d mMo_copyBlock 116 [.val (.ref 193), .val (.int a1), .val (.int a2), .val (.int a3)] [] (hpo X mem sw o e) P
  refine QW.iload_n dMo_copyBlock_116 rfl rfl ?_
  refine QW.bipush (v := 6) dMo_copyBlock_117 (by decide) ?_
  refine QW.icmp_ge (tgt := 194) dMo_copyBlock_119 (by decide) (fun z0 => ?_) (fun z0 => ?_)
  · exact QW.vret dMo_copyBlock_194 rfl (k1 z0)
  · refine QW.aload_n dMo_copyBlock_122 rfl rfl ?_
    refine MW.getr (r' := 208) hX dMo_copyBlock_123 fMo_58 rfl rfl (by cases sw <;> rfl) ?_
    refine QW.bipush (v := 6) dMo_copyBlock_126 (by decide) ?_
    refine QW.iload_n dMo_copyBlock_128 rfl rfl ?_
    refine QW.imul dMo_copyBlock_129 ?_
    refine QW.iload_n dMo_copyBlock_130 rfl rfl ?_
    refine QW.iadd dMo_copyBlock_131 ?_
    refine QW.aload_n dMo_copyBlock_132 rfl rfl ?_
    refine MW.getr (r' := 208) hX dMo_copyBlock_133 fMo_58 rfl rfl (by cases sw <;> rfl) ?_
    refine QW.bipush (v := 6) dMo_copyBlock_136 (by decide) ?_
    refine QW.iload_n dMo_copyBlock_138 rfl rfl ?_
    refine QW.imul dMo_copyBlock_139 ?_
    refine QW.iload_n dMo_copyBlock_140 rfl rfl ?_
    refine QW.iadd dMo_copyBlock_141 ?_
    refine MW.iald hX dMo_copyBlock_142 rfl (h2 z0).1 (rep_get (h2 z0).2) ?_
    refine MW.iast hX dMo_copyBlock_143 rfl (h3 z0).1 (rep_get (h3 z0).2) ?_
    refine QW.aload_n dMo_copyBlock_144 rfl rfl ?_
    refine MW.getr (r' := 209) hX dMo_copyBlock_145 fMo_61 rfl rfl (by cases sw <;> rfl) ?_
    refine QW.bipush (v := 6) dMo_copyBlock_148 (by decide) ?_
    refine QW.iload_n dMo_copyBlock_150 rfl rfl ?_
    refine QW.imul dMo_copyBlock_151 ?_
    refine QW.iload_n dMo_copyBlock_152 rfl rfl ?_
    refine QW.iadd dMo_copyBlock_153 ?_
    refine QW.aload_n dMo_copyBlock_154 rfl rfl ?_
    refine MW.getr (r' := 209) hX dMo_copyBlock_155 fMo_61 rfl rfl (by cases sw <;> rfl) ?_
    refine QW.bipush (v := 6) dMo_copyBlock_158 (by decide) ?_
    refine QW.iload_n dMo_copyBlock_160 rfl rfl ?_
    refine QW.imul dMo_copyBlock_161 ?_
    refine QW.iload_n dMo_copyBlock_162 rfl rfl ?_
    refine QW.iadd dMo_copyBlock_163 ?_
    refine MW.iald hX dMo_copyBlock_164 rfl (h4 z0).1 (rep_get (h4 z0).2) ?_
    refine MW.iast hX dMo_copyBlock_165 rfl (h5 z0).1 (rep_get (h5 z0).2) ?_
    refine QW.aload_n dMo_copyBlock_166 rfl rfl ?_
    refine MW.getr (r' := 210) hX dMo_copyBlock_167 fMo_64 rfl rfl (by cases sw <;> rfl) ?_
    refine QW.bipush (v := 6) dMo_copyBlock_170 (by decide) ?_
    refine QW.iload_n dMo_copyBlock_172 rfl rfl ?_
    refine QW.imul dMo_copyBlock_173 ?_
    refine QW.iload_n dMo_copyBlock_174 rfl rfl ?_
    refine QW.iadd dMo_copyBlock_175 ?_
    refine QW.aload_n dMo_copyBlock_176 rfl rfl ?_
    refine MW.getr (r' := 210) hX dMo_copyBlock_177 fMo_64 rfl rfl (by cases sw <;> rfl) ?_
    refine QW.bipush (v := 6) dMo_copyBlock_180 (by decide) ?_
    refine QW.iload_n dMo_copyBlock_182 rfl rfl ?_
    refine QW.imul dMo_copyBlock_183 ?_
    refine QW.iload_n dMo_copyBlock_184 rfl rfl ?_
    refine QW.iadd dMo_copyBlock_185 ?_
    refine MW.zald hX dMo_copyBlock_186 rfl (h6 z0).1 (rep_get (h6 z0).2) ?_
    refine MW.zast hX dMo_copyBlock_187 rfl (h7 z0).1 (rep_get (h7 z0).2) (h8 z0) ?_
    refine MW.iinc (c := 1) (ls' := [.val (.ref 193), .val (.int a1), .val (.int a2), .val (.int (a3 + 1))]) dMo_copyBlock_188 (by decide) rfl rfl ?_
    refine QW.goto (tgt := 116) dMo_copyBlock_191 (by decide) ?_
    exact (k9 z0)
theorem dMo_question_0 : decode mMo_question.2.1 0 = .ok (.aload_n 0, 1) := by decide +kernel
theorem dMo_question_1 : decode mMo_question.2.1 1 = .ok (.aload_n 0, 1) := by decide +kernel
theorem dMo_question_2 : decode mMo_question.2.1 2 = .ok (.invokevirtual 199, 3) := by decide +kernel
theorem dMo_question_5 : decode mMo_question.2.1 5 = .ok (.putfield 27, 3) := by decide +kernel
theorem dMo_question_8 : decode mMo_question.2.1 8 = .ok (.aload_n 0, 1) := by decide +kernel
theorem dMo_question_9 : decode mMo_question.2.1 9 = .ok (.aload_n 0, 1) := by decide +kernel
theorem dMo_question_10 : decode mMo_question.2.1 10 = .ok (.getfield 27, 3) := by decide +kernel
theorem dMo_question_13 : decode mMo_question.2.1 13 = .ok (.ifCond .lt 7, 3) := by decide +kernel
theorem dMo_question_16 : decode mMo_question.2.1 16 = .ok (.iconst 1, 1) := by decide +kernel
theorem dMo_question_17 : decode mMo_question.2.1 17 = .ok (.goto 16, 3) := by decide +kernel
theorem dMo_question_20 : decode mMo_question.2.1 20 = .ok (.aload_n 0, 1) := by decide +kernel
theorem dMo_question_21 : decode mMo_question.2.1 21 = .ok (.getfield 202, 3) := by decide +kernel
theorem dMo_question_24 : decode mMo_question.2.1 24 = .ok (.iconst 4, 1) := by decide +kernel
theorem dMo_question_25 : decode mMo_question.2.1 25 = .ok (.if_icmp .ne 7, 3) := by decide +kernel
theorem dMo_question_28 : decode mMo_question.2.1 28 = .ok (.iconst 2, 1) := by decide +kernel
theorem dMo_question_29 : decode mMo_question.2.1 29 = .ok (.goto 4, 3) := by decide +kernel
theorem dMo_question_32 : decode mMo_question.2.1 32 = .ok (.iconst 0, 1) := by decide +kernel
theorem dMo_question_33 : decode mMo_question.2.1 33 = .ok (.putfield 106, 3) := by decide +kernel
theorem dMo_question_36 : decode mMo_question.2.1 36 = .ok (.aload_n 0, 1) := by decide +kernel
theorem dMo_question_37 : decode mMo_question.2.1 37 = .ok (.getfield 106, 3) := by decide +kernel
theorem dMo_question_40 : decode mMo_question.2.1 40 = .ok (.ifCond .le 5, 3) := by decide +kernel
theorem dMo_question_43 : decode mMo_question.2.1 43 = .ok (.iconst 0, 1) := by decide +kernel
theorem dMo_question_44 : decode mMo_question.2.1 44 = .ok (.ireturn, 1) := by decide +kernel
theorem dMo_question_45 : decode mMo_question.2.1 45 = .ok (.aload_n 0, 1) := by decide +kernel
theorem dMo_question_46 : decode mMo_question.2.1 46 = .ok (.getfield 202, 3) := by decide +kernel
theorem dMo_question_49 : decode mMo_question.2.1 49 = .ok (.istore_n 1, 1) := by decide +kernel
theorem dMo_question_50 : decode mMo_question.2.1 50 = .ok (.aload_n 0, 1) := by decide +kernel
theorem dMo_question_51 : decode mMo_question.2.1 51 = .ok (.getfield 31, 3) := by decide +kernel
theorem dMo_question_54 : decode mMo_question.2.1 54 = .ok (.iload_n 1, 1) := by decide +kernel
theorem dMo_question_55 : decode mMo_question.2.1 55 = .ok (.aload_n 0, 1) := by decide +kernel
theorem dMo_question_56 : decode mMo_question.2.1 56 = .ok (.getfield 31, 3) := by decide +kernel
theorem dMo_question_59 : decode mMo_question.2.1 59 = .ok (.iconst 4, 1) := by decide +kernel
theorem dMo_question_60 : decode mMo_question.2.1 60 = .ok (.iaload, 1) := by decide +kernel
theorem dMo_question_61 : decode mMo_question.2.1 61 = .ok (.iastore, 1) := by decide +kernel
theorem dMo_question_62 : decode mMo_question.2.1 62 = .ok (.aload_n 0, 1) := by decide +kernel
theorem dMo_question_63 : decode mMo_question.2.1 63 = .ok (.getfield 34, 3) := by decide +kernel
theorem dMo_question_66 : decode mMo_question.2.1 66 = .ok (.iconst 2, 1) := by decide +kernel
theorem dMo_question_67 : decode mMo_question.2.1 67 = .ok (.iload_n 1, 1) := by decide +kernel
theorem dMo_question_68 : decode mMo_question.2.1 68 = .ok (.imul, 1) := by decide +kernel
theorem dMo_question_69 : decode mMo_question.2.1 69 = .ok (.aload_n 0, 1) := by decide +kernel
theorem dMo_question_70 : decode mMo_question.2.1 70 = .ok (.getfield 34, 3) := by decide +kernel
theorem dMo_question_73 : decode mMo_question.2.1 73 = .ok (.bipush 8, 2) := by decide +kernel
theorem dMo_question_75 : decode mMo_question.2.1 75 = .ok (.iaload, 1) := by decide +kernel
theorem dMo_question_76 : decode mMo_question.2.1 76 = .ok (.iastore, 1) := by decide +kernel
theorem dMo_question_77 : decode mMo_question.2.1 77 = .ok (.aload_n 0, 1) := by decide +kernel
theorem dMo_question_78 : decode mMo_question.2.1 78 = .ok (.getfield 34, 3) := by decide +kernel
theorem dMo_question_81 : decode mMo_question.2.1 81 = .ok (.iconst 2, 1) := by decide +kernel
theorem dMo_question_82 : decode mMo_question.2.1 82 = .ok (.iload_n 1, 1) := by decide +kernel
theorem dMo_question_83 : decode mMo_question.2.1 83 = .ok (.imul, 1) := by decide +kernel
theorem dMo_question_84 : decode mMo_question.2.1 84 = .ok (.iconst 1, 1) := by decide +kernel
theorem dMo_question_85 : decode mMo_question.2.1 85 = .ok (.iadd, 1) := by decide +kernel
theorem dMo_question_86 : decode mMo_question.2.1 86 = .ok (.aload_n 0, 1) := by decide +kernel
theorem dMo_question_87 : decode mMo_question.2.1 87 = .ok (.getfield 34, 3) := by decide +kernel
theorem dMo_question_90 : decode mMo_question.2.1 90 = .ok (.bipush 9, 2) := by decide +kernel
theorem dMo_question_92 : decode mMo_question.2.1 92 = .ok (.iaload, 1) := by decide +kernel
theorem dMo_question_93 : decode mMo_question.2.1 93 = .ok (.iastore, 1) := by decide +kernel
theorem dMo_question_94 : decode mMo_question.2.1 94 = .ok (.iconst 0, 1) := by decide +kernel
theorem dMo_question_95 : decode mMo_question.2.1 95 = .ok (.istore_n 2, 1) := by decide +kernel
theorem dMo_question_96 : decode mMo_question.2.1 96 = .ok (.iload_n 2, 1) := by decide +kernel
theorem dMo_question_97 : decode mMo_question.2.1 97 = .ok (.iconst 3, 1) := by decide +kernel
theorem dMo_question_98 : decode mMo_question.2.1 98 = .ok (.if_icmp .ge 22, 3) := by decide +kernel
theorem dMo_question_101 : decode mMo_question.2.1 101 = .ok (.aload_n 0, 1) := by decide +kernel
theorem dMo_question_102 : decode mMo_question.2.1 102 = .ok (.bipush 12, 2) := by decide +kernel
theorem dMo_question_104 : decode mMo_question.2.1 104 = .ok (.iload_n 2, 1) := by decide +kernel
theorem dMo_question_105 : decode mMo_question.2.1 105 = .ok (.iadd, 1) := by decide +kernel
theorem dMo_question_106 : decode mMo_question.2.1 106 = .ok (.iconst 3, 1) := by decide +kernel
theorem dMo_question_107 : decode mMo_question.2.1 107 = .ok (.iload_n 1, 1) := by decide +kernel
theorem dMo_question_108 : decode mMo_question.2.1 108 = .ok (.imul, 1) := by decide +kernel
theorem dMo_question_109 : decode mMo_question.2.1 109 = .ok (.iload_n 2, 1) := by decide +kernel
theorem dMo_question_110 : decode mMo_question.2.1 110 = .ok (.iadd, 1) := by decide +kernel
theorem dMo_question_111 : decode mMo_question.2.1 111 = .ok (.invokevirtual 205, 3) := by decide +kernel
theorem dMo_question_114 : decode mMo_question.2.1 114 = .ok (.iinc 2 1, 3) := by decide +kernel
theorem dMo_question_117 : decode mMo_question.2.1 117 = .ok (.goto (-21), 3) := by decide +kernel
theorem dMo_question_120 : decode mMo_question.2.1 120 = .ok (.aload_n 0, 1) := by decide +kernel
theorem dMo_question_121 : decode mMo_question.2.1 121 = .ok (.dup, 1) := by decide +kernel
theorem dMo_question_122 : decode mMo_question.2.1 122 = .ok (.getfield 202, 3) := by decide +kernel
theorem dMo_question_125 : decode mMo_question.2.1 125 = .ok (.iconst 1, 1) := by decide +kernel
theorem dMo_question_126 : decode mMo_question.2.1 126 = .ok (.iadd, 1) := by decide +kernel
theorem dMo_question_127 : decode mMo_question.2.1 127 = .ok (.putfield 202, 3) := by decide +kernel
theorem dMo_question_130 : decode mMo_question.2.1 130 = .ok (.aload_n 0, 1) := by decide +kernel
theorem dMo_question_131 : decode mMo_question.2.1 131 = .ok (.iconst 0, 1) := by decide +kernel
theorem dMo_question_132 : decode mMo_question.2.1 132 = .ok (.putfield 122, 3) := by decide +kernel
theorem dMo_question_135 : decode mMo_question.2.1 135 = .ok (.iload_n 1, 1) := by decide +kernel
theorem dMo_question_136 : decode mMo_question.2.1 136 = .ok (.ireturn, 1) := by decide +kernel
def lMo_question_5  : List Slot := [.val (.ref 193), .unset, .unset]
def lMo_question_33  : List Slot := [.val (.ref 193), .unset, .unset]
def lMo_question_96 (a1 : Int32) (a2 : Int32) : List Slot := [.val (.ref 193), .val (.int a1), .val (.int a2)]
def lMo_question_114 (a1 : Int32) (a2 : Int32) : List Slot := [.val (.ref 193), .val (.int a1), .val (.int a2)]
theorem bMo_question_0 (hX : X.length = 13) (k1 : QW d mMo_readText 0 (qen 3 [.ref 193]) [] (hpo X mem sw o e) (qcl d mMo_question 2 5 lMo_question_5 [.ref 193] P)) : QW (d + 1) mMo_question 0 (qen 3 [.ref 193]) [] (hpo X mem sw o e) P := by
  show QW (d + 1) mMo_question 0 [.val (.ref 193), .unset, .unset] [] (hpo X mem sw o e) P
  refine QW.aload_n dMo_question_0 rfl rfl ?_
  refine QW.aload_n dMo_question_1 rfl rfl ?_
  exact MW.calV (as := []) (rest := [.ref 193]) hX dMo_question_2 eMo_readText lMo_199 iMo_readText vMo_readText rfl rfl rfl rfl rfl rfl (Nat.le_of_ble_eq_true rfl) rfl k1
theorem bMo_question_5 {s1 : Int32} (hX : X.length = 13) (k1 : (((mup mem 193 8 s1) 193 8) < 0) → (¬ ((mup mem 193 8 s1) 193 13) = 4) → QW d mMo_question 33 lMo_question_33 [.int 0, .ref 193] (hpo X (mup mem 193 8 s1) sw o e) P) (k2 : (((mup mem 193 8 s1) 193 8) < 0) → (((mup mem 193 8 s1) 193 13) = 4) → QW d mMo_question 33 lMo_question_33 [.int 2, .ref 193] (hpo X (mup mem 193 8 s1) sw o e) P) (k3 : (¬ ((mup mem 193 8 s1) 193 8) < 0) → QW d mMo_question 33 lMo_question_33 [.int 1, .ref 193] (hpo X (mup mem 193 8 s1) sw o e) P) : QW d mMo_question 5 (lMo_question_5) [.int s1, .ref 193] (hpo X mem sw o e) P := by
  show QW d mMo_question 5 [.val (.ref 193), .unset, .unset] [.int s1, .ref 193] (hpo X mem sw o e) P
  refine MW.puti hX dMo_question_5 fMo_27 rfl rfl rfl ?_
  refine QW.aload_n dMo_question_8 rfl rfl ?_
  refine QW.aload_n dMo_question_9 rfl rfl ?_
  refine MW.geti hX dMo_question_10 fMo_27 rfl rfl ?_
  refine QW.if_lt (tgt := 20) dMo_question_13 (by decide) (fun z0 => ?_) (fun z0 => ?_)
  · refine QW.aload_n dMo_question_20 rfl rfl ?_
    refine MW.geti hX dMo_question_21 fMo_202 rfl rfl ?_
    refine QW.iconst (v := 4) dMo_question_24 (by decide) ?_
    refine QW.icmp_ne (tgt := 32) dMo_question_25 (by decide) (fun z1 => ?_) (fun z1 => ?_)
    · refine QW.iconst (v := 0) dMo_question_32 (by decide) ?_
      exact (k1 z0 z1)
    · refine QW.iconst (v := 2) dMo_question_28 (by decide) ?_
      refine QW.goto (tgt := 33) dMo_question_29 (by decide) ?_
      exact (k2 z0 z1)
  · refine QW.iconst (v := 1) dMo_question_16 (by decide) ?_
    refine QW.goto (tgt := 33) dMo_question_17 (by decide) ?_
    exact (k3 z0)
theorem bMo_question_33 {s1 : Int32} (hX : X.length = 13) (h1 : (((mup mem 193 0 s1) 193 0) ≤ 0) → inx ((mup mem 193 0 s1) 193 13) 5) (h2 : (((mup mem 193 0 s1) 193 0) ≤ 0) → inx (2 * ((mup mem 193 0 s1) 193 13)) 10) (h3 : (((mup mem 193 0 s1) 193 0) ≤ 0) → inx ((2 * ((mup mem 193 0 s1) 193 13)) + 1) 10) (k4 : (((mup mem 193 0 s1) 193 0) ≤ 0) → QW d mMo_question 96 (lMo_question_96 ((mup mem 193 0 s1) 193 13) 0) [] (hpo X (mup (mup (mup (mup mem 193 0 s1) 199 (Int32.toNatClampNeg ((mup mem 193 0 s1) 193 13)) ((mup mem 193 0 s1) 199 (Int32.toNatClampNeg 4))) 200 (Int32.toNatClampNeg (2 * ((mup mem 193 0 s1) 193 13))) ((mup (mup mem 193 0 s1) 199 (Int32.toNatClampNeg ((mup mem 193 0 s1) 193 13)) ((mup mem 193 0 s1) 199 (Int32.toNatClampNeg 4))) 200 (Int32.toNatClampNeg 8))) 200 (Int32.toNatClampNeg ((2 * ((mup mem 193 0 s1) 193 13)) + 1)) ((mup (mup (mup mem 193 0 s1) 199 (Int32.toNatClampNeg ((mup mem 193 0 s1) 193 13)) ((mup mem 193 0 s1) 199 (Int32.toNatClampNeg 4))) 200 (Int32.toNatClampNeg (2 * ((mup mem 193 0 s1) 193 13))) ((mup (mup mem 193 0 s1) 199 (Int32.toNatClampNeg ((mup mem 193 0 s1) 193 13)) ((mup mem 193 0 s1) 199 (Int32.toNatClampNeg 4))) 200 (Int32.toNatClampNeg 8))) 200 (Int32.toNatClampNeg 9))) sw o e) P) (k5 : (¬ ((mup mem 193 0 s1) 193 0) ≤ 0) → P (.inl (some (.int 0)), (hpo X (mup mem 193 0 s1) sw o e))) : QW d mMo_question 33 (lMo_question_33) [.int s1, .ref 193] (hpo X mem sw o e) P := by
  show QW d mMo_question 33 [.val (.ref 193), .unset, .unset] [.int s1, .ref 193] (hpo X mem sw o e) P
  refine MW.puti hX dMo_question_33 fMo_106 rfl rfl rfl ?_
  refine QW.aload_n dMo_question_36 rfl rfl ?_
  refine MW.geti hX dMo_question_37 fMo_106 rfl rfl ?_
  refine QW.if_le (tgt := 45) dMo_question_40 (by decide) (fun z0 => ?_) (fun z0 => ?_)
  · refine QW.aload_n dMo_question_45 rfl rfl ?_
    refine MW.geti hX dMo_question_46 fMo_202 rfl rfl ?_
    refine QW.istore_n (ls' := [.val (.ref 193), .val (.int ((mup mem 193 0 s1) 193 13)), .unset]) dMo_question_49 rfl rfl ?_
    refine QW.aload_n dMo_question_50 rfl rfl ?_
    refine MW.getr (r' := 199) hX dMo_question_51 fMo_31 rfl rfl (by cases sw <;> rfl) ?_
    refine QW.iload_n dMo_question_54 rfl rfl ?_
    refine QW.aload_n dMo_question_55 rfl rfl ?_
    refine MW.getr (r' := 199) hX dMo_question_56 fMo_31 rfl rfl (by cases sw <;> rfl) ?_
    refine QW.iconst (v := 4) dMo_question_59 (by decide) ?_
    refine MW.iald hX dMo_question_60 rfl (show inx 4 5 from ⟨by decide, by decide⟩).1 (rep_get (show inx 4 5 from ⟨by decide, by decide⟩).2) ?_
    refine MW.iast hX dMo_question_61 rfl (h1 z0).1 (rep_get (h1 z0).2) ?_
    refine QW.aload_n dMo_question_62 rfl rfl ?_
    refine MW.getr (r' := 200) hX dMo_question_63 fMo_34 rfl rfl (by cases sw <;> rfl) ?_
    refine QW.iconst (v := 2) dMo_question_66 (by decide) ?_
    refine QW.iload_n dMo_question_67 rfl rfl ?_
    refine QW.imul dMo_question_68 ?_
    refine QW.aload_n dMo_question_69 rfl rfl ?_
    refine MW.getr (r' := 200) hX dMo_question_70 fMo_34 rfl rfl (by cases sw <;> rfl) ?_
    refine QW.bipush (v := 8) dMo_question_73 (by decide) ?_
    refine MW.iald hX dMo_question_75 rfl (show inx 8 10 from ⟨by decide, by decide⟩).1 (rep_get (show inx 8 10 from ⟨by decide, by decide⟩).2) ?_
    refine MW.iast hX dMo_question_76 rfl (h2 z0).1 (rep_get (h2 z0).2) ?_
    refine QW.aload_n dMo_question_77 rfl rfl ?_
    refine MW.getr (r' := 200) hX dMo_question_78 fMo_34 rfl rfl (by cases sw <;> rfl) ?_
    refine QW.iconst (v := 2) dMo_question_81 (by decide) ?_
    refine QW.iload_n dMo_question_82 rfl rfl ?_
    refine QW.imul dMo_question_83 ?_
    refine QW.iconst (v := 1) dMo_question_84 (by decide) ?_
    refine QW.iadd dMo_question_85 ?_
    refine QW.aload_n dMo_question_86 rfl rfl ?_
    refine MW.getr (r' := 200) hX dMo_question_87 fMo_34 rfl rfl (by cases sw <;> rfl) ?_
    refine QW.bipush (v := 9) dMo_question_90 (by decide) ?_
    refine MW.iald hX dMo_question_92 rfl (show inx 9 10 from ⟨by decide, by decide⟩).1 (rep_get (show inx 9 10 from ⟨by decide, by decide⟩).2) ?_
    refine MW.iast hX dMo_question_93 rfl (h3 z0).1 (rep_get (h3 z0).2) ?_
    refine QW.iconst (v := 0) dMo_question_94 (by decide) ?_
    refine QW.istore_n (ls' := [.val (.ref 193), .val (.int ((mup mem 193 0 s1) 193 13)), .val (.int 0)]) dMo_question_95 rfl rfl ?_
    exact (k4 z0)
  · refine QW.iconst (v := 0) dMo_question_43 (by decide) ?_
    exact QW.iret dMo_question_44 rfl rfl (k5 z0)
theorem bMo_question_96 {a1 : Int32} {a2 : Int32} (hX : X.length = 13) (k1 : (3 ≤ a2) → P (.inl (some (.int a1)), (hpo X (mup (mup mem 193 13 ((mem 193 13) + 1)) 193 6 0) sw o e))) (k2 : (¬ 3 ≤ a2) → QW d mMo_copyBlock 0 (qen 4 [.ref 193, .int (12 + a2), .int ((3 * a1) + a2)]) [] (hpo X mem sw o e) (qcl d mMo_question 111 114 (lMo_question_114 a1 a2) [] P)) : QW (d + 1) mMo_question 96 (lMo_question_96 a1 a2) [] (hpo X mem sw o e) P := by
  show QW (d + 1) mMo_question 96 [.val (.ref 193), .val (.int a1), .val (.int a2)] [] (hpo X mem sw o e) P
  refine QW.iload_n dMo_question_96 rfl rfl ?_
  refine QW.iconst (v := 3) dMo_question_97 (by decide) ?_
  refine QW.icmp_ge (tgt := 120) dMo_question_98 (by decide) (fun z0 => ?_) (fun z0 => ?_)
  · refine QW.aload_n dMo_question_120 rfl rfl ?_
    refine QW.dup dMo_question_121 rfl ?_
    refine MW.geti hX dMo_question_122 fMo_202 rfl rfl ?_
    refine QW.iconst (v := 1) dMo_question_125 (by decide) ?_
    refine QW.iadd dMo_question_126 ?_
    refine MW.puti hX dMo_question_127 fMo_202 rfl rfl rfl ?_
    refine QW.aload_n dMo_question_130 rfl rfl ?_
    refine QW.iconst (v := 0) dMo_question_131 (by decide) ?_
    refine MW.puti hX dMo_question_132 fMo_122 rfl rfl rfl ?_
    refine QW.iload_n dMo_question_135 rfl rfl ?_
    exact QW.iret dMo_question_136 rfl rfl (k1 z0)
  · refine QW.aload_n dMo_question_101 rfl rfl ?_
    refine QW.bipush (v := 12) dMo_question_102 (by decide) ?_
    refine QW.iload_n dMo_question_104 rfl rfl ?_
    refine QW.iadd dMo_question_105 ?_
    refine QW.iconst (v := 3) dMo_question_106 (by decide) ?_
    refine QW.iload_n dMo_question_107 rfl rfl ?_
    refine QW.imul dMo_question_108 ?_
    refine QW.iload_n dMo_question_109 rfl rfl ?_
    refine QW.iadd dMo_question_110 ?_
    exact MW.calV (as := [.int (12 + a2), .int ((3 * a1) + a2)]) (rest := []) hX dMo_question_111 eMo_copyBlock lMo_205 iMo_copyBlock vMo_copyBlock rfl rfl rfl rfl rfl rfl (Nat.le_of_ble_eq_true rfl) rfl (k2 z0)
theorem bMo_question_114 {a1 : Int32} {a2 : Int32} (hX : X.length = 13) (k1 : QW d mMo_question 96 (lMo_question_96 a1 (a2 + 1)) [] (hpo X mem sw o e) P) : QW d mMo_question 114 (lMo_question_114 a1 a2) [] (hpo X mem sw o e) P := by
  show QW d mMo_question 114 [.val (.ref 193), .val (.int a1), .val (.int a2)] [] (hpo X mem sw o e) P
  refine MW.iinc (c := 1) (ls' := [.val (.ref 193), .val (.int a1), .val (.int (a2 + 1))]) dMo_question_114 (by decide) rfl rfl ?_
  refine QW.goto (tgt := 96) dMo_question_117 (by decide) ?_
  exact k1
theorem dMo_place_0 : decode mMo_place.2.1 0 = .ok (.aload_n 0, 1) := by decide +kernel
theorem dMo_place_1 : decode mMo_place.2.1 1 = .ok (.iconst 0, 1) := by decide +kernel
theorem dMo_place_2 : decode mMo_place.2.1 2 = .ok (.putfield 106, 3) := by decide +kernel
theorem dMo_place_5 : decode mMo_place.2.1 5 = .ok (.aload_n 0, 1) := by decide +kernel
theorem dMo_place_6 : decode mMo_place.2.1 6 = .ok (.getfield 27, 3) := by decide +kernel
theorem dMo_place_9 : decode mMo_place.2.1 9 = .ok (.ireturn, 1) := by decide +kernel
theorem bMo_place_0 (hX : X.length = 13) (k1 : P (.inl (some (.int ((mup mem 193 0 0) 193 8))), (hpo X (mup mem 193 0 0) sw o e))) : QW d mMo_place 0 (qen 1 [.ref 193]) [] (hpo X mem sw o e) P := by
  show QW d mMo_place 0 [.val (.ref 193)] [] (hpo X mem sw o e) P
  refine QW.aload_n dMo_place_0 rfl rfl ?_
  refine QW.iconst (v := 0) dMo_place_1 (by decide) ?_
  refine MW.puti hX dMo_place_2 fMo_106 rfl rfl rfl ?_
  refine QW.aload_n dMo_place_5 rfl rfl ?_
  refine MW.geti hX dMo_place_6 fMo_27 rfl rfl ?_
  exact QW.iret dMo_place_9 rfl rfl k1
theorem dMo_forget_0 : decode mMo_forget.2.1 0 = .ok (.aload_n 0, 1) := by decide +kernel
theorem dMo_forget_1 : decode mMo_forget.2.1 1 = .ok (.iconst 0, 1) := by decide +kernel
theorem dMo_forget_2 : decode mMo_forget.2.1 2 = .ok (.putfield 106, 3) := by decide +kernel
theorem dMo_forget_5 : decode mMo_forget.2.1 5 = .ok (.aload_n 0, 1) := by decide +kernel
theorem dMo_forget_6 : decode mMo_forget.2.1 6 = .ok (.getfield 202, 3) := by decide +kernel
theorem dMo_forget_9 : decode mMo_forget.2.1 9 = .ok (.istore_n 1, 1) := by decide +kernel
theorem dMo_forget_10 : decode mMo_forget.2.1 10 = .ok (.aload_n 0, 1) := by decide +kernel
theorem dMo_forget_11 : decode mMo_forget.2.1 11 = .ok (.iconst 0, 1) := by decide +kernel
theorem dMo_forget_12 : decode mMo_forget.2.1 12 = .ok (.putfield 202, 3) := by decide +kernel
theorem dMo_forget_15 : decode mMo_forget.2.1 15 = .ok (.iload_n 1, 1) := by decide +kernel
theorem dMo_forget_16 : decode mMo_forget.2.1 16 = .ok (.ireturn, 1) := by decide +kernel
theorem bMo_forget_0 (hX : X.length = 13) (k1 : P (.inl (some (.int ((mup mem 193 0 0) 193 13))), (hpo X (mup (mup mem 193 0 0) 193 13 0) sw o e))) : QW d mMo_forget 0 (qen 2 [.ref 193]) [] (hpo X mem sw o e) P := by
  show QW d mMo_forget 0 [.val (.ref 193), .unset] [] (hpo X mem sw o e) P
  refine QW.aload_n dMo_forget_0 rfl rfl ?_
  refine QW.iconst (v := 0) dMo_forget_1 (by decide) ?_
  refine MW.puti hX dMo_forget_2 fMo_106 rfl rfl rfl ?_
  refine QW.aload_n dMo_forget_5 rfl rfl ?_
  refine MW.geti hX dMo_forget_6 fMo_202 rfl rfl ?_
  refine QW.istore_n (ls' := [.val (.ref 193), .val (.int ((mup mem 193 0 0) 193 13))]) dMo_forget_9 rfl rfl ?_
  refine QW.aload_n dMo_forget_10 rfl rfl ?_
  refine QW.iconst (v := 0) dMo_forget_11 (by decide) ?_
  refine MW.puti hX dMo_forget_12 fMo_202 rfl rfl rfl ?_
  refine QW.iload_n dMo_forget_15 rfl rfl ?_
  exact QW.iret dMo_forget_16 rfl rfl k1
theorem dMo_valueOf_0 : decode mMo_valueOf.2.1 0 = .ok (.iload_n 2, 1) := by decide +kernel
theorem dMo_valueOf_1 : decode mMo_valueOf.2.1 1 = .ok (.sipush 1000, 3) := by decide +kernel
theorem dMo_valueOf_4 : decode mMo_valueOf.2.1 4 = .ok (.if_icmp .lt 9, 3) := by decide +kernel
theorem dMo_valueOf_7 : decode mMo_valueOf.2.1 7 = .ok (.iload_n 2, 1) := by decide +kernel
theorem dMo_valueOf_8 : decode mMo_valueOf.2.1 8 = .ok (.sipush 2000, 3) := by decide +kernel
theorem dMo_valueOf_11 : decode mMo_valueOf.2.1 11 = .ok (.isub, 1) := by decide +kernel
theorem dMo_valueOf_12 : decode mMo_valueOf.2.1 12 = .ok (.ireturn, 1) := by decide +kernel
theorem dMo_valueOf_13 : decode mMo_valueOf.2.1 13 = .ok (.aload_n 0, 1) := by decide +kernel
theorem dMo_valueOf_14 : decode mMo_valueOf.2.1 14 = .ok (.getfield 16, 3) := by decide +kernel
theorem dMo_valueOf_17 : decode mMo_valueOf.2.1 17 = .ok (.bipush 24, 2) := by decide +kernel
theorem dMo_valueOf_19 : decode mMo_valueOf.2.1 19 = .ok (.aload_n 0, 1) := by decide +kernel
theorem dMo_valueOf_20 : decode mMo_valueOf.2.1 20 = .ok (.getfield 49, 3) := by decide +kernel
theorem dMo_valueOf_23 : decode mMo_valueOf.2.1 23 = .ok (.iconst 4, 1) := by decide +kernel
theorem dMo_valueOf_24 : decode mMo_valueOf.2.1 24 = .ok (.iload_n 1, 1) := by decide +kernel
theorem dMo_valueOf_25 : decode mMo_valueOf.2.1 25 = .ok (.imul, 1) := by decide +kernel
theorem dMo_valueOf_26 : decode mMo_valueOf.2.1 26 = .ok (.iload_n 2, 1) := by decide +kernel
theorem dMo_valueOf_27 : decode mMo_valueOf.2.1 27 = .ok (.iconst 3, 1) := by decide +kernel
theorem dMo_valueOf_28 : decode mMo_valueOf.2.1 28 = .ok (.idiv, 1) := by decide +kernel
theorem dMo_valueOf_29 : decode mMo_valueOf.2.1 29 = .ok (.iadd, 1) := by decide +kernel
theorem dMo_valueOf_30 : decode mMo_valueOf.2.1 30 = .ok (.iaload, 1) := by decide +kernel
theorem dMo_valueOf_31 : decode mMo_valueOf.2.1 31 = .ok (.imul, 1) := by decide +kernel
theorem dMo_valueOf_32 : decode mMo_valueOf.2.1 32 = .ok (.iconst 3, 1) := by decide +kernel
theorem dMo_valueOf_33 : decode mMo_valueOf.2.1 33 = .ok (.aload_n 0, 1) := by decide +kernel
theorem dMo_valueOf_34 : decode mMo_valueOf.2.1 34 = .ok (.getfield 85, 3) := by decide +kernel
theorem dMo_valueOf_37 : decode mMo_valueOf.2.1 37 = .ok (.iload_n 2, 1) := by decide +kernel
theorem dMo_valueOf_38 : decode mMo_valueOf.2.1 38 = .ok (.iconst 3, 1) := by decide +kernel
theorem dMo_valueOf_39 : decode mMo_valueOf.2.1 39 = .ok (.idiv, 1) := by decide +kernel
theorem dMo_valueOf_40 : decode mMo_valueOf.2.1 40 = .ok (.iaload, 1) := by decide +kernel
theorem dMo_valueOf_41 : decode mMo_valueOf.2.1 41 = .ok (.imul, 1) := by decide +kernel
theorem dMo_valueOf_42 : decode mMo_valueOf.2.1 42 = .ok (.iadd, 1) := by decide +kernel
theorem dMo_valueOf_43 : decode mMo_valueOf.2.1 43 = .ok (.iload_n 2, 1) := by decide +kernel
theorem dMo_valueOf_44 : decode mMo_valueOf.2.1 44 = .ok (.iconst 3, 1) := by decide +kernel
theorem dMo_valueOf_45 : decode mMo_valueOf.2.1 45 = .ok (.irem, 1) := by decide +kernel
theorem dMo_valueOf_46 : decode mMo_valueOf.2.1 46 = .ok (.iadd, 1) := by decide +kernel
theorem dMo_valueOf_47 : decode mMo_valueOf.2.1 47 = .ok (.iaload, 1) := by decide +kernel
theorem dMo_valueOf_48 : decode mMo_valueOf.2.1 48 = .ok (.ireturn, 1) := by decide +kernel
theorem bMo_valueOf_0 {a1 : Int32} {a2 : Int32} (hX : X.length = 13) (h1 : (a2 < 1000) → inx ((4 * a1) + (a2 / 3)) 60) (h2 : (a2 < 1000) → inx (a2 / 3) 4) (h3 : (a2 < 1000) → inx (((24 * (mem 205 (Int32.toNatClampNeg ((4 * a1) + (a2 / 3))))) + (3 * (mem 217 (Int32.toNatClampNeg (a2 / 3))))) + (a2 - a2 / 3 * 3)) 96) (k4 : (a2 < 1000) → P (.inl (some (.int (mem 196 (Int32.toNatClampNeg (((24 * (mem 205 (Int32.toNatClampNeg ((4 * a1) + (a2 / 3))))) + (3 * (mem 217 (Int32.toNatClampNeg (a2 / 3))))) + (a2 - a2 / 3 * 3)))))), (hpo X mem sw o e))) (k5 : (¬ a2 < 1000) → P (.inl (some (.int (a2 - 2000))), (hpo X mem sw o e))) : QW d mMo_valueOf 0 (qen 3 [.ref 193, .int a1, .int a2]) [] (hpo X mem sw o e) P := by
  show QW d mMo_valueOf 0 [.val (.ref 193), .val (.int a1), .val (.int a2)] [] (hpo X mem sw o e) P
  refine QW.iload_n dMo_valueOf_0 rfl rfl ?_
  refine QW.sipush (v := 1000) dMo_valueOf_1 (by decide) ?_
  refine QW.icmp_lt (tgt := 13) dMo_valueOf_4 (by decide) (fun z0 => ?_) (fun z0 => ?_)
  · refine QW.aload_n dMo_valueOf_13 rfl rfl ?_
    refine MW.getr (r' := 196) hX dMo_valueOf_14 fMo_16 rfl rfl (by cases sw <;> rfl) ?_
    refine QW.bipush (v := 24) dMo_valueOf_17 (by decide) ?_
    refine QW.aload_n dMo_valueOf_19 rfl rfl ?_
    refine MW.getr (r' := 205) hX dMo_valueOf_20 fMo_49 rfl rfl (by cases sw <;> rfl) ?_
    refine QW.iconst (v := 4) dMo_valueOf_23 (by decide) ?_
    refine QW.iload_n dMo_valueOf_24 rfl rfl ?_
    refine QW.imul dMo_valueOf_25 ?_
    refine QW.iload_n dMo_valueOf_26 rfl rfl ?_
    refine QW.iconst (v := 3) dMo_valueOf_27 (by decide) ?_
    refine QW.idiv dMo_valueOf_28 (by decide) ?_
    refine QW.iadd dMo_valueOf_29 ?_
    refine MW.iald hX dMo_valueOf_30 rfl (h1 z0).1 (rep_get (h1 z0).2) ?_
    refine QW.imul dMo_valueOf_31 ?_
    refine QW.iconst (v := 3) dMo_valueOf_32 (by decide) ?_
    refine QW.aload_n dMo_valueOf_33 rfl rfl ?_
    refine MW.getr (r' := 217) hX dMo_valueOf_34 fMo_85 rfl rfl (by cases sw <;> rfl) ?_
    refine QW.iload_n dMo_valueOf_37 rfl rfl ?_
    refine QW.iconst (v := 3) dMo_valueOf_38 (by decide) ?_
    refine QW.idiv dMo_valueOf_39 (by decide) ?_
    refine MW.iald hX dMo_valueOf_40 rfl (h2 z0).1 (rep_get (h2 z0).2) ?_
    refine QW.imul dMo_valueOf_41 ?_
    refine QW.iadd dMo_valueOf_42 ?_
    refine QW.iload_n dMo_valueOf_43 rfl rfl ?_
    refine QW.iconst (v := 3) dMo_valueOf_44 (by decide) ?_
    refine QW.irem dMo_valueOf_45 (by decide) ?_
    refine QW.iadd dMo_valueOf_46 ?_
    refine MW.iald hX dMo_valueOf_47 rfl (h3 z0).1 (rep_get (h3 z0).2) ?_
    exact QW.iret dMo_valueOf_48 rfl rfl (k4 z0)
  · refine QW.iload_n dMo_valueOf_7 rfl rfl ?_
    refine QW.sipush (v := 2000) dMo_valueOf_8 (by decide) ?_
    refine QW.isub dMo_valueOf_11 ?_
    exact QW.iret dMo_valueOf_12 rfl rfl (k5 z0)
theorem dMo_allTrue_0 : decode mMo_allTrue.2.1 0 = .ok (.iconst 1, 1) := by decide +kernel
theorem dMo_allTrue_1 : decode mMo_allTrue.2.1 1 = .ok (.istore_n 2, 1) := by decide +kernel
theorem dMo_allTrue_2 : decode mMo_allTrue.2.1 2 = .ok (.bipush 6, 2) := by decide +kernel
theorem dMo_allTrue_4 : decode mMo_allTrue.2.1 4 = .ok (.iload_n 1, 1) := by decide +kernel
theorem dMo_allTrue_5 : decode mMo_allTrue.2.1 5 = .ok (.imul, 1) := by decide +kernel
theorem dMo_allTrue_6 : decode mMo_allTrue.2.1 6 = .ok (.istore_n 3, 1) := by decide +kernel
theorem dMo_allTrue_7 : decode mMo_allTrue.2.1 7 = .ok (.iload_n 3, 1) := by decide +kernel
theorem dMo_allTrue_8 : decode mMo_allTrue.2.1 8 = .ok (.bipush 6, 2) := by decide +kernel
theorem dMo_allTrue_10 : decode mMo_allTrue.2.1 10 = .ok (.iload_n 1, 1) := by decide +kernel
theorem dMo_allTrue_11 : decode mMo_allTrue.2.1 11 = .ok (.imul, 1) := by decide +kernel
theorem dMo_allTrue_12 : decode mMo_allTrue.2.1 12 = .ok (.aload_n 0, 1) := by decide +kernel
theorem dMo_allTrue_13 : decode mMo_allTrue.2.1 13 = .ok (.getfield 55, 3) := by decide +kernel
theorem dMo_allTrue_16 : decode mMo_allTrue.2.1 16 = .ok (.iload_n 1, 1) := by decide +kernel
theorem dMo_allTrue_17 : decode mMo_allTrue.2.1 17 = .ok (.iaload, 1) := by decide +kernel
theorem dMo_allTrue_18 : decode mMo_allTrue.2.1 18 = .ok (.iadd, 1) := by decide +kernel
theorem dMo_allTrue_19 : decode mMo_allTrue.2.1 19 = .ok (.if_icmp .ge 71, 3) := by decide +kernel
theorem dMo_allTrue_22 : decode mMo_allTrue.2.1 22 = .ok (.aload_n 0, 1) := by decide +kernel
theorem dMo_allTrue_23 : decode mMo_allTrue.2.1 23 = .ok (.iload_n 1, 1) := by decide +kernel
theorem dMo_allTrue_24 : decode mMo_allTrue.2.1 24 = .ok (.aload_n 0, 1) := by decide +kernel
theorem dMo_allTrue_25 : decode mMo_allTrue.2.1 25 = .ok (.getfield 58, 3) := by decide +kernel
theorem dMo_allTrue_28 : decode mMo_allTrue.2.1 28 = .ok (.iload_n 3, 1) := by decide +kernel
theorem dMo_allTrue_29 : decode mMo_allTrue.2.1 29 = .ok (.iaload, 1) := by decide +kernel
theorem dMo_allTrue_30 : decode mMo_allTrue.2.1 30 = .ok (.invokevirtual 209, 3) := by decide +kernel
theorem dMo_allTrue_33 : decode mMo_allTrue.2.1 33 = .ok (.istore 4, 2) := by decide +kernel
theorem dMo_allTrue_35 : decode mMo_allTrue.2.1 35 = .ok (.aload_n 0, 1) := by decide +kernel
theorem dMo_allTrue_36 : decode mMo_allTrue.2.1 36 = .ok (.iload_n 1, 1) := by decide +kernel
theorem dMo_allTrue_37 : decode mMo_allTrue.2.1 37 = .ok (.aload_n 0, 1) := by decide +kernel
theorem dMo_allTrue_38 : decode mMo_allTrue.2.1 38 = .ok (.getfield 61, 3) := by decide +kernel
theorem dMo_allTrue_41 : decode mMo_allTrue.2.1 41 = .ok (.iload_n 3, 1) := by decide +kernel
theorem dMo_allTrue_42 : decode mMo_allTrue.2.1 42 = .ok (.iaload, 1) := by decide +kernel
theorem dMo_allTrue_43 : decode mMo_allTrue.2.1 43 = .ok (.invokevirtual 209, 3) := by decide +kernel
theorem dMo_allTrue_46 : decode mMo_allTrue.2.1 46 = .ok (.istore 5, 2) := by decide +kernel
theorem dMo_allTrue_48 : decode mMo_allTrue.2.1 48 = .ok (.iload_n 2, 1) := by decide +kernel
theorem dMo_allTrue_49 : decode mMo_allTrue.2.1 49 = .ok (.ifCond .eq 33, 3) := by decide +kernel
theorem dMo_allTrue_52 : decode mMo_allTrue.2.1 52 = .ok (.aload_n 0, 1) := by decide +kernel
theorem dMo_allTrue_53 : decode mMo_allTrue.2.1 53 = .ok (.getfield 64, 3) := by decide +kernel
theorem dMo_allTrue_56 : decode mMo_allTrue.2.1 56 = .ok (.iload_n 3, 1) := by decide +kernel
theorem dMo_allTrue_57 : decode mMo_allTrue.2.1 57 = .ok (.baload, 1) := by decide +kernel
theorem dMo_allTrue_58 : decode mMo_allTrue.2.1 58 = .ok (.ifCond .eq 13, 3) := by decide +kernel
theorem dMo_allTrue_61 : decode mMo_allTrue.2.1 61 = .ok (.iload 4, 2) := by decide +kernel
theorem dMo_allTrue_63 : decode mMo_allTrue.2.1 63 = .ok (.iload 5, 2) := by decide +kernel
theorem dMo_allTrue_65 : decode mMo_allTrue.2.1 65 = .ok (.if_icmp .ge 17, 3) := by decide +kernel
theorem dMo_allTrue_68 : decode mMo_allTrue.2.1 68 = .ok (.goto 10, 3) := by decide +kernel
theorem dMo_allTrue_71 : decode mMo_allTrue.2.1 71 = .ok (.iload 4, 2) := by decide +kernel
theorem dMo_allTrue_73 : decode mMo_allTrue.2.1 73 = .ok (.iload 5, 2) := by decide +kernel
theorem dMo_allTrue_75 : decode mMo_allTrue.2.1 75 = .ok (.if_icmp .ne 7, 3) := by decide +kernel
theorem dMo_allTrue_78 : decode mMo_allTrue.2.1 78 = .ok (.iconst 1, 1) := by decide +kernel
theorem dMo_allTrue_79 : decode mMo_allTrue.2.1 79 = .ok (.goto 4, 3) := by decide +kernel
theorem dMo_allTrue_82 : decode mMo_allTrue.2.1 82 = .ok (.iconst 0, 1) := by decide +kernel
theorem dMo_allTrue_83 : decode mMo_allTrue.2.1 83 = .ok (.istore_n 2, 1) := by decide +kernel
theorem dMo_allTrue_84 : decode mMo_allTrue.2.1 84 = .ok (.iinc 3 1, 3) := by decide +kernel
theorem dMo_allTrue_87 : decode mMo_allTrue.2.1 87 = .ok (.goto (-80), 3) := by decide +kernel
theorem dMo_allTrue_90 : decode mMo_allTrue.2.1 90 = .ok (.iload_n 2, 1) := by decide +kernel
theorem dMo_allTrue_91 : decode mMo_allTrue.2.1 91 = .ok (.ireturn, 1) := by decide +kernel
def lMo_allTrue_7 (a1 : Int32) (a2 : Int32) (a3 : Int32) (w4 : Slot) (w5 : Slot) : List Slot := [.val (.ref 193), .val (.int a1), .val (.int a2), .val (.int a3), w4, w5]
def lMo_allTrue_33 (a1 : Int32) (a2 : Int32) (a3 : Int32) (w4 : Slot) (w5 : Slot) : List Slot := [.val (.ref 193), .val (.int a1), .val (.int a2), .val (.int a3), w4, w5]
def lMo_allTrue_46 (a1 : Int32) (a2 : Int32) (a3 : Int32) (a4 : Int32) (w5 : Slot) : List Slot := [.val (.ref 193), .val (.int a1), .val (.int a2), .val (.int a3), .val (.int a4), w5]
def lMo_allTrue_78 (a1 : Int32) (a2 : Int32) (a3 : Int32) (a4 : Int32) (a5 : Int32) : List Slot := [.val (.ref 193), .val (.int a1), .val (.int a2), .val (.int a3), .val (.int a4), .val (.int a5)]
def lMo_allTrue_82 (a1 : Int32) (a2 : Int32) (a3 : Int32) (a4 : Int32) (a5 : Int32) : List Slot := [.val (.ref 193), .val (.int a1), .val (.int a2), .val (.int a3), .val (.int a4), .val (.int a5)]
def lMo_allTrue_83 (a1 : Int32) (a2 : Int32) (a3 : Int32) (a4 : Int32) (a5 : Int32) : List Slot := [.val (.ref 193), .val (.int a1), .val (.int a2), .val (.int a3), .val (.int a4), .val (.int a5)]
theorem bMo_allTrue_0 {a1 : Int32} (hX : X.length = 13) (k1 : QW d mMo_allTrue 7 (lMo_allTrue_7 a1 1 (6 * a1) .unset .unset) [] (hpo X mem sw o e) P) : QW d mMo_allTrue 0 (qen 6 [.ref 193, .int a1]) [] (hpo X mem sw o e) P := by
  show QW d mMo_allTrue 0 [.val (.ref 193), .val (.int a1), .unset, .unset, .unset, .unset] [] (hpo X mem sw o e) P
  refine QW.iconst (v := 1) dMo_allTrue_0 (by decide) ?_
  refine QW.istore_n (ls' := [.val (.ref 193), .val (.int a1), .val (.int 1), .unset, .unset, .unset]) dMo_allTrue_1 rfl rfl ?_
  refine QW.bipush (v := 6) dMo_allTrue_2 (by decide) ?_
  refine QW.iload_n dMo_allTrue_4 rfl rfl ?_
  refine QW.imul dMo_allTrue_5 ?_
  refine QW.istore_n (ls' := [.val (.ref 193), .val (.int a1), .val (.int 1), .val (.int (6 * a1)), .unset, .unset]) dMo_allTrue_6 rfl rfl ?_
  exact k1
theorem bMo_allTrue_7 {a1 : Int32} {a2 : Int32} {a3 : Int32} {w4 : Slot} {w5 : Slot} (hX : X.length = 13) (hw4 : qfr w4) (hw5 : qfr w5) (h1 : inx a1 15) (h2 : (((6 * a1) + (mem 207 (Int32.toNatClampNeg a1))) ≤ a3) → narrow .boolean (.int a2) = .int a2) (k3 : (((6 * a1) + (mem 207 (Int32.toNatClampNeg a1))) ≤ a3) → P (.inl (some (.int a2)), (hpo X mem sw o e))) (h4 : (¬ ((6 * a1) + (mem 207 (Int32.toNatClampNeg a1))) ≤ a3) → inx a3 90) (k5 : (¬ ((6 * a1) + (mem 207 (Int32.toNatClampNeg a1))) ≤ a3) → QW d mMo_valueOf 0 (qen 3 [.ref 193, .int a1, .int (mem 208 (Int32.toNatClampNeg a3))]) [] (hpo X mem sw o e) (qcl d mMo_allTrue 30 33 (lMo_allTrue_33 a1 a2 a3 w4 w5) [] P)) : QW (d + 1) mMo_allTrue 7 (lMo_allTrue_7 a1 a2 a3 w4 w5) [] (hpo X mem sw o e) P := by
  show QW (d + 1) mMo_allTrue 7 [.val (.ref 193), .val (.int a1), .val (.int a2), .val (.int a3), w4, w5] [] (hpo X mem sw o e) P
  refine QW.iload_n dMo_allTrue_7 rfl rfl ?_
  refine QW.bipush (v := 6) dMo_allTrue_8 (by decide) ?_
  refine QW.iload_n dMo_allTrue_10 rfl rfl ?_
  refine QW.imul dMo_allTrue_11 ?_
  refine QW.aload_n dMo_allTrue_12 rfl rfl ?_
  refine MW.getr (r' := 207) hX dMo_allTrue_13 fMo_55 rfl rfl (by cases sw <;> rfl) ?_
  refine QW.iload_n dMo_allTrue_16 rfl rfl ?_
  refine MW.iald hX dMo_allTrue_17 rfl h1.1 (rep_get h1.2) ?_
  refine QW.iadd dMo_allTrue_18 ?_
  refine QW.icmp_ge (tgt := 90) dMo_allTrue_19 (by decide) (fun z0 => ?_) (fun z0 => ?_)
  · refine QW.iload_n dMo_allTrue_90 rfl rfl ?_
    exact QW.iret dMo_allTrue_91 rfl (h2 z0) (k3 z0)
  · refine QW.aload_n dMo_allTrue_22 rfl rfl ?_
    refine QW.iload_n dMo_allTrue_23 rfl rfl ?_
    refine QW.aload_n dMo_allTrue_24 rfl rfl ?_
    refine MW.getr (r' := 208) hX dMo_allTrue_25 fMo_58 rfl rfl (by cases sw <;> rfl) ?_
    refine QW.iload_n dMo_allTrue_28 rfl rfl ?_
    refine MW.iald hX dMo_allTrue_29 rfl (h4 z0).1 (rep_get (h4 z0).2) ?_
    exact MW.calV (as := [.int a1, .int (mem 208 (Int32.toNatClampNeg a3))]) (rest := []) hX dMo_allTrue_30 eMo_valueOf lMo_209 iMo_valueOf vMo_valueOf rfl rfl rfl rfl rfl rfl (Nat.le_of_ble_eq_true rfl) rfl (k5 z0)
theorem bMo_allTrue_33 {a1 : Int32} {a2 : Int32} {a3 : Int32} {w4 : Slot} {w5 : Slot} {s0 : Int32} (hX : X.length = 13) (hw4 : qfr w4) (hw5 : qfr w5) (h1 : inx a3 90) (k2 : QW d mMo_valueOf 0 (qen 3 [.ref 193, .int a1, .int (mem 209 (Int32.toNatClampNeg a3))]) [] (hpo X mem sw o e) (qcl d mMo_allTrue 43 46 (lMo_allTrue_46 a1 a2 a3 s0 w5) [] P)) : QW (d + 1) mMo_allTrue 33 (lMo_allTrue_33 a1 a2 a3 w4 w5) [.int s0] (hpo X mem sw o e) P := by
  show QW (d + 1) mMo_allTrue 33 [.val (.ref 193), .val (.int a1), .val (.int a2), .val (.int a3), w4, w5] [.int s0] (hpo X mem sw o e) P
  refine QW.istore (ls' := [.val (.ref 193), .val (.int a1), .val (.int a2), .val (.int a3), .val (.int s0), w5]) dMo_allTrue_33 (by rcases hw4 with z | ⟨_, z⟩ | ⟨_, z⟩ <;> subst z <;> rfl) ?_
  refine QW.aload_n dMo_allTrue_35 rfl rfl ?_
  refine QW.iload_n dMo_allTrue_36 rfl rfl ?_
  refine QW.aload_n dMo_allTrue_37 rfl rfl ?_
  refine MW.getr (r' := 209) hX dMo_allTrue_38 fMo_61 rfl rfl (by cases sw <;> rfl) ?_
  refine QW.iload_n dMo_allTrue_41 rfl rfl ?_
  refine MW.iald hX dMo_allTrue_42 rfl h1.1 (rep_get h1.2) ?_
  exact MW.calV (as := [.int a1, .int (mem 209 (Int32.toNatClampNeg a3))]) (rest := []) hX dMo_allTrue_43 eMo_valueOf lMo_209 iMo_valueOf vMo_valueOf rfl rfl rfl rfl rfl rfl (Nat.le_of_ble_eq_true rfl) rfl k2
theorem bMo_allTrue_46 {a1 : Int32} {a2 : Int32} {a3 : Int32} {a4 : Int32} {w5 : Slot} {s0 : Int32} (hX : X.length = 13) (hw5 : qfr w5) (k1 : (a2 = 0) → QW d mMo_allTrue 82 (lMo_allTrue_82 a1 a2 a3 a4 s0) [] (hpo X mem sw o e) P) (h2 : (¬ a2 = 0) → inx a3 90) (k3 : (¬ a2 = 0) → ((mem 210 (Int32.toNatClampNeg a3)) = 0) → (¬ a4 = s0) → QW d mMo_allTrue 82 (lMo_allTrue_82 a1 a2 a3 a4 s0) [] (hpo X mem sw o e) P) (k4 : (¬ a2 = 0) → ((mem 210 (Int32.toNatClampNeg a3)) = 0) → (a4 = s0) → QW d mMo_allTrue 78 (lMo_allTrue_78 a1 a2 a3 a4 s0) [] (hpo X mem sw o e) P) (k5 : (¬ a2 = 0) → (¬ (mem 210 (Int32.toNatClampNeg a3)) = 0) → (s0 ≤ a4) → QW d mMo_allTrue 82 (lMo_allTrue_82 a1 a2 a3 a4 s0) [] (hpo X mem sw o e) P) (k6 : (¬ a2 = 0) → (¬ (mem 210 (Int32.toNatClampNeg a3)) = 0) → (¬ s0 ≤ a4) → QW d mMo_allTrue 78 (lMo_allTrue_78 a1 a2 a3 a4 s0) [] (hpo X mem sw o e) P) : QW d mMo_allTrue 46 (lMo_allTrue_46 a1 a2 a3 a4 w5) [.int s0] (hpo X mem sw o e) P := by
  show QW d mMo_allTrue 46 [.val (.ref 193), .val (.int a1), .val (.int a2), .val (.int a3), .val (.int a4), w5] [.int s0] (hpo X mem sw o e) P
  refine QW.istore (ls' := [.val (.ref 193), .val (.int a1), .val (.int a2), .val (.int a3), .val (.int a4), .val (.int s0)]) dMo_allTrue_46 (by rcases hw5 with z | ⟨_, z⟩ | ⟨_, z⟩ <;> subst z <;> rfl) ?_
  refine QW.iload_n dMo_allTrue_48 rfl rfl ?_
  refine QW.if_eq (tgt := 82) dMo_allTrue_49 (by decide) (fun z0 => ?_) (fun z0 => ?_)
  · exact (k1 z0)
  · refine QW.aload_n dMo_allTrue_52 rfl rfl ?_
    refine MW.getr (r' := 210) hX dMo_allTrue_53 fMo_64 rfl rfl (by cases sw <;> rfl) ?_
    refine QW.iload_n dMo_allTrue_56 rfl rfl ?_
    refine MW.zald hX dMo_allTrue_57 rfl (h2 z0).1 (rep_get (h2 z0).2) ?_
    refine QW.if_eq (tgt := 71) dMo_allTrue_58 (by decide) (fun z1 => ?_) (fun z1 => ?_)
    · refine QW.iload dMo_allTrue_71 rfl ?_
      refine QW.iload dMo_allTrue_73 rfl ?_
      refine QW.icmp_ne (tgt := 82) dMo_allTrue_75 (by decide) (fun z2 => ?_) (fun z2 => ?_)
      · exact (k3 z0 z1 z2)
      · exact (k4 z0 z1 z2)
    · refine QW.iload dMo_allTrue_61 rfl ?_
      refine QW.iload dMo_allTrue_63 rfl ?_
      refine QW.icmp_ge (tgt := 82) dMo_allTrue_65 (by decide) (fun z2 => ?_) (fun z2 => ?_)
      · exact (k5 z0 z1 z2)
      · refine QW.goto (tgt := 78) dMo_allTrue_68 (by decide) ?_
        exact (k6 z0 z1 z2)
theorem bMo_allTrue_78 {a1 : Int32} {a2 : Int32} {a3 : Int32} {a4 : Int32} {a5 : Int32} (hX : X.length = 13) (k1 : QW d mMo_allTrue 83 (lMo_allTrue_83 a1 a2 a3 a4 a5) [.int 1] (hpo X mem sw o e) P) : QW d mMo_allTrue 78 (lMo_allTrue_78 a1 a2 a3 a4 a5) [] (hpo X mem sw o e) P := by
  show QW d mMo_allTrue 78 [.val (.ref 193), .val (.int a1), .val (.int a2), .val (.int a3), .val (.int a4), .val (.int a5)] [] (hpo X mem sw o e) P
  refine QW.iconst (v := 1) dMo_allTrue_78 (by decide) ?_
  refine QW.goto (tgt := 83) dMo_allTrue_79 (by decide) ?_
  exact k1
theorem bMo_allTrue_82 {a1 : Int32} {a2 : Int32} {a3 : Int32} {a4 : Int32} {a5 : Int32} (hX : X.length = 13) (k1 : QW d mMo_allTrue 83 (lMo_allTrue_83 a1 a2 a3 a4 a5) [.int 0] (hpo X mem sw o e) P) : QW d mMo_allTrue 82 (lMo_allTrue_82 a1 a2 a3 a4 a5) [] (hpo X mem sw o e) P := by
  show QW d mMo_allTrue 82 [.val (.ref 193), .val (.int a1), .val (.int a2), .val (.int a3), .val (.int a4), .val (.int a5)] [] (hpo X mem sw o e) P
  refine QW.iconst (v := 0) dMo_allTrue_82 (by decide) ?_
  exact k1
theorem bMo_allTrue_83 {a1 : Int32} {a2 : Int32} {a3 : Int32} {a4 : Int32} {a5 : Int32} {s0 : Int32} (hX : X.length = 13) (k1 : QW d mMo_allTrue 7 (lMo_allTrue_7 a1 s0 (a3 + 1) (.val (.int a4)) (.val (.int a5))) [] (hpo X mem sw o e) P) : QW d mMo_allTrue 83 (lMo_allTrue_83 a1 a2 a3 a4 a5) [.int s0] (hpo X mem sw o e) P := by
  show QW d mMo_allTrue 83 [.val (.ref 193), .val (.int a1), .val (.int a2), .val (.int a3), .val (.int a4), .val (.int a5)] [.int s0] (hpo X mem sw o e) P
  refine QW.istore_n (ls' := [.val (.ref 193), .val (.int a1), .val (.int s0), .val (.int a3), .val (.int a4), .val (.int a5)]) dMo_allTrue_83 rfl rfl ?_
  refine MW.iinc (c := 1) (ls' := [.val (.ref 193), .val (.int a1), .val (.int s0), .val (.int (a3 + 1)), .val (.int a4), .val (.int a5)]) dMo_allTrue_84 (by decide) rfl rfl ?_
  refine QW.goto (tgt := 7) dMo_allTrue_87 (by decide) ?_
  exact k1
theorem dMo_count_0 : decode mMo_count.2.1 0 = .ok (.iconst 0, 1) := by decide +kernel
theorem dMo_count_1 : decode mMo_count.2.1 1 = .ok (.istore_n 2, 1) := by decide +kernel
theorem dMo_count_2 : decode mMo_count.2.1 2 = .ok (.iload_n 2, 1) := by decide +kernel
theorem dMo_count_3 : decode mMo_count.2.1 3 = .ok (.iconst 3, 1) := by decide +kernel
theorem dMo_count_4 : decode mMo_count.2.1 4 = .ok (.if_icmp .ge 44, 3) := by decide +kernel
theorem dMo_count_7 : decode mMo_count.2.1 7 = .ok (.aload_n 0, 1) := by decide +kernel
theorem dMo_count_8 : decode mMo_count.2.1 8 = .ok (.getfield 88, 3) := by decide +kernel
theorem dMo_count_11 : decode mMo_count.2.1 11 = .ok (.iload_n 2, 1) := by decide +kernel
theorem dMo_count_12 : decode mMo_count.2.1 12 = .ok (.iload_n 2, 1) := by decide +kernel
theorem dMo_count_13 : decode mMo_count.2.1 13 = .ok (.aload_n 0, 1) := by decide +kernel
theorem dMo_count_14 : decode mMo_count.2.1 14 = .ok (.getfield 40, 3) := by decide +kernel
theorem dMo_count_17 : decode mMo_count.2.1 17 = .ok (.iload_n 1, 1) := by decide +kernel
theorem dMo_count_18 : decode mMo_count.2.1 18 = .ok (.iaload, 1) := by decide +kernel
theorem dMo_count_19 : decode mMo_count.2.1 19 = .ok (.if_icmp .ge 21, 3) := by decide +kernel
theorem dMo_count_22 : decode mMo_count.2.1 22 = .ok (.aload_n 0, 1) := by decide +kernel
theorem dMo_count_23 : decode mMo_count.2.1 23 = .ok (.iload_n 1, 1) := by decide +kernel
theorem dMo_count_24 : decode mMo_count.2.1 24 = .ok (.aload_n 0, 1) := by decide +kernel
theorem dMo_count_25 : decode mMo_count.2.1 25 = .ok (.getfield 43, 3) := by decide +kernel
theorem dMo_count_28 : decode mMo_count.2.1 28 = .ok (.iconst 3, 1) := by decide +kernel
theorem dMo_count_29 : decode mMo_count.2.1 29 = .ok (.iload_n 1, 1) := by decide +kernel
theorem dMo_count_30 : decode mMo_count.2.1 30 = .ok (.imul, 1) := by decide +kernel
theorem dMo_count_31 : decode mMo_count.2.1 31 = .ok (.iload_n 2, 1) := by decide +kernel
theorem dMo_count_32 : decode mMo_count.2.1 32 = .ok (.iadd, 1) := by decide +kernel
theorem dMo_count_33 : decode mMo_count.2.1 33 = .ok (.iaload, 1) := by decide +kernel
theorem dMo_count_34 : decode mMo_count.2.1 34 = .ok (.invokevirtual 209, 3) := by decide +kernel
theorem dMo_count_37 : decode mMo_count.2.1 37 = .ok (.goto 4, 3) := by decide +kernel
theorem dMo_count_40 : decode mMo_count.2.1 40 = .ok (.iconst 0, 1) := by decide +kernel
theorem dMo_count_41 : decode mMo_count.2.1 41 = .ok (.iastore, 1) := by decide +kernel
theorem dMo_count_42 : decode mMo_count.2.1 42 = .ok (.iinc 2 1, 3) := by decide +kernel
theorem dMo_count_45 : decode mMo_count.2.1 45 = .ok (.goto (-43), 3) := by decide +kernel
theorem dMo_count_48 : decode mMo_count.2.1 48 = .ok (.iconst 0, 1) := by decide +kernel
theorem dMo_count_49 : decode mMo_count.2.1 49 = .ok (.istore_n 2, 1) := by decide +kernel
theorem dMo_count_50 : decode mMo_count.2.1 50 = .ok (.iload_n 2, 1) := by decide +kernel
theorem dMo_count_51 : decode mMo_count.2.1 51 = .ok (.aload_n 0, 1) := by decide +kernel
theorem dMo_count_52 : decode mMo_count.2.1 52 = .ok (.getfield 212, 3) := by decide +kernel
theorem dMo_count_55 : decode mMo_count.2.1 55 = .ok (.if_icmp .ge 89, 3) := by decide +kernel
theorem dMo_count_58 : decode mMo_count.2.1 58 = .ok (.aload_n 0, 1) := by decide +kernel
theorem dMo_count_59 : decode mMo_count.2.1 59 = .ok (.getfield 67, 3) := by decide +kernel
theorem dMo_count_62 : decode mMo_count.2.1 62 = .ok (.iconst 3, 1) := by decide +kernel
theorem dMo_count_63 : decode mMo_count.2.1 63 = .ok (.iload_n 2, 1) := by decide +kernel
theorem dMo_count_64 : decode mMo_count.2.1 64 = .ok (.imul, 1) := by decide +kernel
theorem dMo_count_65 : decode mMo_count.2.1 65 = .ok (.iaload, 1) := by decide +kernel
theorem dMo_count_66 : decode mMo_count.2.1 66 = .ok (.aload_n 0, 1) := by decide +kernel
theorem dMo_count_67 : decode mMo_count.2.1 67 = .ok (.getfield 88, 3) := by decide +kernel
theorem dMo_count_70 : decode mMo_count.2.1 70 = .ok (.iconst 0, 1) := by decide +kernel
theorem dMo_count_71 : decode mMo_count.2.1 71 = .ok (.iaload, 1) := by decide +kernel
theorem dMo_count_72 : decode mMo_count.2.1 72 = .ok (.if_icmp .ne 66, 3) := by decide +kernel
theorem dMo_count_75 : decode mMo_count.2.1 75 = .ok (.aload_n 0, 1) := by decide +kernel
theorem dMo_count_76 : decode mMo_count.2.1 76 = .ok (.getfield 67, 3) := by decide +kernel
theorem dMo_count_79 : decode mMo_count.2.1 79 = .ok (.iconst 3, 1) := by decide +kernel
theorem dMo_count_80 : decode mMo_count.2.1 80 = .ok (.iload_n 2, 1) := by decide +kernel
theorem dMo_count_81 : decode mMo_count.2.1 81 = .ok (.imul, 1) := by decide +kernel
theorem dMo_count_82 : decode mMo_count.2.1 82 = .ok (.iconst 1, 1) := by decide +kernel
theorem dMo_count_83 : decode mMo_count.2.1 83 = .ok (.iadd, 1) := by decide +kernel
theorem dMo_count_84 : decode mMo_count.2.1 84 = .ok (.iaload, 1) := by decide +kernel
theorem dMo_count_85 : decode mMo_count.2.1 85 = .ok (.aload_n 0, 1) := by decide +kernel
theorem dMo_count_86 : decode mMo_count.2.1 86 = .ok (.getfield 88, 3) := by decide +kernel
theorem dMo_count_89 : decode mMo_count.2.1 89 = .ok (.iconst 1, 1) := by decide +kernel
theorem dMo_count_90 : decode mMo_count.2.1 90 = .ok (.iaload, 1) := by decide +kernel
theorem dMo_count_91 : decode mMo_count.2.1 91 = .ok (.if_icmp .ne 47, 3) := by decide +kernel
theorem dMo_count_94 : decode mMo_count.2.1 94 = .ok (.aload_n 0, 1) := by decide +kernel
theorem dMo_count_95 : decode mMo_count.2.1 95 = .ok (.getfield 67, 3) := by decide +kernel
theorem dMo_count_98 : decode mMo_count.2.1 98 = .ok (.iconst 3, 1) := by decide +kernel
theorem dMo_count_99 : decode mMo_count.2.1 99 = .ok (.iload_n 2, 1) := by decide +kernel
theorem dMo_count_100 : decode mMo_count.2.1 100 = .ok (.imul, 1) := by decide +kernel
theorem dMo_count_101 : decode mMo_count.2.1 101 = .ok (.iconst 2, 1) := by decide +kernel
theorem dMo_count_102 : decode mMo_count.2.1 102 = .ok (.iadd, 1) := by decide +kernel
theorem dMo_count_103 : decode mMo_count.2.1 103 = .ok (.iaload, 1) := by decide +kernel
theorem dMo_count_104 : decode mMo_count.2.1 104 = .ok (.aload_n 0, 1) := by decide +kernel
theorem dMo_count_105 : decode mMo_count.2.1 105 = .ok (.getfield 88, 3) := by decide +kernel
theorem dMo_count_108 : decode mMo_count.2.1 108 = .ok (.iconst 2, 1) := by decide +kernel
theorem dMo_count_109 : decode mMo_count.2.1 109 = .ok (.iaload, 1) := by decide +kernel
theorem dMo_count_110 : decode mMo_count.2.1 110 = .ok (.if_icmp .ne 28, 3) := by decide +kernel
theorem dMo_count_113 : decode mMo_count.2.1 113 = .ok (.aload_n 0, 1) := by decide +kernel
theorem dMo_count_114 : decode mMo_count.2.1 114 = .ok (.getfield 70, 3) := by decide +kernel
theorem dMo_count_117 : decode mMo_count.2.1 117 = .ok (.iload_n 2, 1) := by decide +kernel
theorem dMo_count_118 : decode mMo_count.2.1 118 = .ok (.dup2, 1) := by decide +kernel
theorem dMo_count_119 : decode mMo_count.2.1 119 = .ok (.iaload, 1) := by decide +kernel
theorem dMo_count_120 : decode mMo_count.2.1 120 = .ok (.aload_n 0, 1) := by decide +kernel
theorem dMo_count_121 : decode mMo_count.2.1 121 = .ok (.getfield 37, 3) := by decide +kernel
theorem dMo_count_124 : decode mMo_count.2.1 124 = .ok (.iload_n 1, 1) := by decide +kernel
theorem dMo_count_125 : decode mMo_count.2.1 125 = .ok (.baload, 1) := by decide +kernel
theorem dMo_count_126 : decode mMo_count.2.1 126 = .ok (.ifCond .eq 7, 3) := by decide +kernel
theorem dMo_count_129 : decode mMo_count.2.1 129 = .ok (.iconst 0, 1) := by decide +kernel
theorem dMo_count_130 : decode mMo_count.2.1 130 = .ok (.goto 4, 3) := by decide +kernel
theorem dMo_count_133 : decode mMo_count.2.1 133 = .ok (.iconst 1, 1) := by decide +kernel
theorem dMo_count_134 : decode mMo_count.2.1 134 = .ok (.iadd, 1) := by decide +kernel
theorem dMo_count_135 : decode mMo_count.2.1 135 = .ok (.iastore, 1) := by decide +kernel
theorem dMo_count_136 : decode mMo_count.2.1 136 = .ok (.iconst 1, 1) := by decide +kernel
theorem dMo_count_137 : decode mMo_count.2.1 137 = .ok (.ireturn, 1) := by decide +kernel
theorem dMo_count_138 : decode mMo_count.2.1 138 = .ok (.iinc 2 1, 3) := by decide +kernel
theorem dMo_count_141 : decode mMo_count.2.1 141 = .ok (.goto (-91), 3) := by decide +kernel
theorem dMo_count_144 : decode mMo_count.2.1 144 = .ok (.aload_n 0, 1) := by decide +kernel
theorem dMo_count_145 : decode mMo_count.2.1 145 = .ok (.getfield 212, 3) := by decide +kernel
theorem dMo_count_148 : decode mMo_count.2.1 148 = .ok (.bipush 64, 2) := by decide +kernel
theorem dMo_count_150 : decode mMo_count.2.1 150 = .ok (.if_icmp .ne 5, 3) := by decide +kernel
theorem dMo_count_153 : decode mMo_count.2.1 153 = .ok (.iconst 0, 1) := by decide +kernel
theorem dMo_count_154 : decode mMo_count.2.1 154 = .ok (.ireturn, 1) := by decide +kernel
theorem dMo_count_155 : decode mMo_count.2.1 155 = .ok (.iconst 0, 1) := by decide +kernel
theorem dMo_count_156 : decode mMo_count.2.1 156 = .ok (.istore_n 2, 1) := by decide +kernel
theorem dMo_count_157 : decode mMo_count.2.1 157 = .ok (.iload_n 2, 1) := by decide +kernel
theorem dMo_count_158 : decode mMo_count.2.1 158 = .ok (.iconst 3, 1) := by decide +kernel
theorem dMo_count_159 : decode mMo_count.2.1 159 = .ok (.if_icmp .ge 28, 3) := by decide +kernel
theorem dMo_count_162 : decode mMo_count.2.1 162 = .ok (.aload_n 0, 1) := by decide +kernel
theorem dMo_count_163 : decode mMo_count.2.1 163 = .ok (.getfield 67, 3) := by decide +kernel
theorem dMo_count_166 : decode mMo_count.2.1 166 = .ok (.iconst 3, 1) := by decide +kernel
theorem dMo_count_167 : decode mMo_count.2.1 167 = .ok (.aload_n 0, 1) := by decide +kernel
theorem dMo_count_168 : decode mMo_count.2.1 168 = .ok (.getfield 212, 3) := by decide +kernel
theorem dMo_count_171 : decode mMo_count.2.1 171 = .ok (.imul, 1) := by decide +kernel
theorem dMo_count_172 : decode mMo_count.2.1 172 = .ok (.iload_n 2, 1) := by decide +kernel
theorem dMo_count_173 : decode mMo_count.2.1 173 = .ok (.iadd, 1) := by decide +kernel
theorem dMo_count_174 : decode mMo_count.2.1 174 = .ok (.aload_n 0, 1) := by decide +kernel
theorem dMo_count_175 : decode mMo_count.2.1 175 = .ok (.getfield 88, 3) := by decide +kernel
theorem dMo_count_178 : decode mMo_count.2.1 178 = .ok (.iload_n 2, 1) := by decide +kernel
theorem dMo_count_179 : decode mMo_count.2.1 179 = .ok (.iaload, 1) := by decide +kernel
theorem dMo_count_180 : decode mMo_count.2.1 180 = .ok (.iastore, 1) := by decide +kernel
theorem dMo_count_181 : decode mMo_count.2.1 181 = .ok (.iinc 2 1, 3) := by decide +kernel
theorem dMo_count_184 : decode mMo_count.2.1 184 = .ok (.goto (-27), 3) := by decide +kernel
theorem dMo_count_187 : decode mMo_count.2.1 187 = .ok (.aload_n 0, 1) := by decide +kernel
theorem dMo_count_188 : decode mMo_count.2.1 188 = .ok (.getfield 70, 3) := by decide +kernel
theorem dMo_count_191 : decode mMo_count.2.1 191 = .ok (.aload_n 0, 1) := by decide +kernel
theorem dMo_count_192 : decode mMo_count.2.1 192 = .ok (.getfield 212, 3) := by decide +kernel
theorem dMo_count_195 : decode mMo_count.2.1 195 = .ok (.iconst 1, 1) := by decide +kernel
theorem dMo_count_196 : decode mMo_count.2.1 196 = .ok (.iastore, 1) := by decide +kernel
theorem dMo_count_197 : decode mMo_count.2.1 197 = .ok (.aload_n 0, 1) := by decide +kernel
theorem dMo_count_198 : decode mMo_count.2.1 198 = .ok (.dup, 1) := by decide +kernel
theorem dMo_count_199 : decode mMo_count.2.1 199 = .ok (.getfield 212, 3) := by decide +kernel
theorem dMo_count_202 : decode mMo_count.2.1 202 = .ok (.iconst 1, 1) := by decide +kernel
theorem dMo_count_203 : decode mMo_count.2.1 203 = .ok (.iadd, 1) := by decide +kernel
theorem dMo_count_204 : decode mMo_count.2.1 204 = .ok (.putfield 212, 3) := by decide +kernel
theorem dMo_count_207 : decode mMo_count.2.1 207 = .ok (.iconst 1, 1) := by decide +kernel
theorem dMo_count_208 : decode mMo_count.2.1 208 = .ok (.ireturn, 1) := by decide +kernel
def lMo_count_2 (a1 : Int32) (a2 : Int32) : List Slot := [.val (.ref 193), .val (.int a1), .val (.int a2)]
def lMo_count_37 (a1 : Int32) (a2 : Int32) : List Slot := [.val (.ref 193), .val (.int a1), .val (.int a2)]
def lMo_count_41 (a1 : Int32) (a2 : Int32) : List Slot := [.val (.ref 193), .val (.int a1), .val (.int a2)]
def lMo_count_50 (a1 : Int32) (a2 : Int32) : List Slot := [.val (.ref 193), .val (.int a1), .val (.int a2)]
def lMo_count_134 (a1 : Int32) (a2 : Int32) : List Slot := [.val (.ref 193), .val (.int a1), .val (.int a2)]
def lMo_count_157 (a1 : Int32) (a2 : Int32) : List Slot := [.val (.ref 193), .val (.int a1), .val (.int a2)]
theorem bMo_count_0 {a1 : Int32} (hX : X.length = 13) (k1 : QW d mMo_count 2 (lMo_count_2 a1 0) [] (hpo X mem sw o e) P) : QW d mMo_count 0 (qen 3 [.ref 193, .int a1]) [] (hpo X mem sw o e) P := by
  show QW d mMo_count 0 [.val (.ref 193), .val (.int a1), .unset] [] (hpo X mem sw o e) P
  refine QW.iconst (v := 0) dMo_count_0 (by decide) ?_
  refine QW.istore_n (ls' := [.val (.ref 193), .val (.int a1), .val (.int 0)]) dMo_count_1 rfl rfl ?_
  exact k1
theorem bMo_count_2 {a1 : Int32} {a2 : Int32} (hX : X.length = 13) (k1 : (3 ≤ a2) → QW (d + 1) mMo_count 50 (lMo_count_50 a1 0) [] (hpo X mem sw o e) P) (h2 : (¬ 3 ≤ a2) → inx a1 15) (k3 : (¬ 3 ≤ a2) → ((mem 202 (Int32.toNatClampNeg a1)) ≤ a2) → QW (d + 1) mMo_count 41 (lMo_count_41 a1 a2) [.int 0, .int a2, .ref 218] (hpo X mem sw o e) P) (h4 : (¬ 3 ≤ a2) → (¬ (mem 202 (Int32.toNatClampNeg a1)) ≤ a2) → inx ((3 * a1) + a2) 45) (k5 : (¬ 3 ≤ a2) → (¬ (mem 202 (Int32.toNatClampNeg a1)) ≤ a2) → QW d mMo_valueOf 0 (qen 3 [.ref 193, .int a1, .int (mem 203 (Int32.toNatClampNeg ((3 * a1) + a2)))]) [] (hpo X mem sw o e) (qcl d mMo_count 34 37 (lMo_count_37 a1 a2) [.int a2, .ref 218] P)) : QW (d + 1) mMo_count 2 (lMo_count_2 a1 a2) [] (hpo X mem sw o e) P := by
  show QW (d + 1) mMo_count 2 [.val (.ref 193), .val (.int a1), .val (.int a2)] [] (hpo X mem sw o e) P
  refine QW.iload_n dMo_count_2 rfl rfl ?_
  refine QW.iconst (v := 3) dMo_count_3 (by decide) ?_
  refine QW.icmp_ge (tgt := 48) dMo_count_4 (by decide) (fun z0 => ?_) (fun z0 => ?_)
  · refine QW.iconst (v := 0) dMo_count_48 (by decide) ?_
    refine QW.istore_n (ls' := [.val (.ref 193), .val (.int a1), .val (.int 0)]) dMo_count_49 rfl rfl ?_
    exact (k1 z0)
  · refine QW.aload_n dMo_count_7 rfl rfl ?_
    refine MW.getr (r' := 218) hX dMo_count_8 fMo_88 rfl rfl (by cases sw <;> rfl) ?_
    refine QW.iload_n dMo_count_11 rfl rfl ?_
    refine QW.iload_n dMo_count_12 rfl rfl ?_
    refine QW.aload_n dMo_count_13 rfl rfl ?_
    refine MW.getr (r' := 202) hX dMo_count_14 fMo_40 rfl rfl (by cases sw <;> rfl) ?_
    refine QW.iload_n dMo_count_17 rfl rfl ?_
    refine MW.iald hX dMo_count_18 rfl (h2 z0).1 (rep_get (h2 z0).2) ?_
    refine QW.icmp_ge (tgt := 40) dMo_count_19 (by decide) (fun z1 => ?_) (fun z1 => ?_)
    · refine QW.iconst (v := 0) dMo_count_40 (by decide) ?_
      exact (k3 z0 z1)
    · refine QW.aload_n dMo_count_22 rfl rfl ?_
      refine QW.iload_n dMo_count_23 rfl rfl ?_
      refine QW.aload_n dMo_count_24 rfl rfl ?_
      refine MW.getr (r' := 203) hX dMo_count_25 fMo_43 rfl rfl (by cases sw <;> rfl) ?_
      refine QW.iconst (v := 3) dMo_count_28 (by decide) ?_
      refine QW.iload_n dMo_count_29 rfl rfl ?_
      refine QW.imul dMo_count_30 ?_
      refine QW.iload_n dMo_count_31 rfl rfl ?_
      refine QW.iadd dMo_count_32 ?_
      refine MW.iald hX dMo_count_33 rfl (h4 z0 z1).1 (rep_get (h4 z0 z1).2) ?_
      exact MW.calV (as := [.int a1, .int (mem 203 (Int32.toNatClampNeg ((3 * a1) + a2)))]) (rest := [.int a2, .ref 218]) hX dMo_count_34 eMo_valueOf lMo_209 iMo_valueOf vMo_valueOf rfl rfl rfl rfl rfl rfl (Nat.le_of_ble_eq_true rfl) rfl (k5 z0 z1)
theorem bMo_count_37 {a1 : Int32} {a2 : Int32} {s2 : Int32} {s1 : Int32} (hX : X.length = 13) (k1 : QW d mMo_count 41 (lMo_count_41 a1 a2) [.int s2, .int s1, .ref 218] (hpo X mem sw o e) P) : QW d mMo_count 37 (lMo_count_37 a1 a2) [.int s2, .int s1, .ref 218] (hpo X mem sw o e) P := by
  show QW d mMo_count 37 [.val (.ref 193), .val (.int a1), .val (.int a2)] [.int s2, .int s1, .ref 218] (hpo X mem sw o e) P
  refine QW.goto (tgt := 41) dMo_count_37 (by decide) ?_
  exact k1
theorem bMo_count_41 {a1 : Int32} {a2 : Int32} {s2 : Int32} {s1 : Int32} (hX : X.length = 13) (h1 : inx s1 3) (k2 : QW d mMo_count 2 (lMo_count_2 a1 (a2 + 1)) [] (hpo X (mup mem 218 (Int32.toNatClampNeg s1) s2) sw o e) P) : QW d mMo_count 41 (lMo_count_41 a1 a2) [.int s2, .int s1, .ref 218] (hpo X mem sw o e) P := by
  show QW d mMo_count 41 [.val (.ref 193), .val (.int a1), .val (.int a2)] [.int s2, .int s1, .ref 218] (hpo X mem sw o e) P
  refine MW.iast hX dMo_count_41 rfl h1.1 (rep_get h1.2) ?_
  refine MW.iinc (c := 1) (ls' := [.val (.ref 193), .val (.int a1), .val (.int (a2 + 1))]) dMo_count_42 (by decide) rfl rfl ?_
  refine QW.goto (tgt := 2) dMo_count_45 (by decide) ?_
  exact k2
theorem bMo_count_50 {a1 : Int32} {a2 : Int32} (hX : X.length = 13) (k1 : ((mem 193 26) ≤ a2) → (¬ (mem 193 26) = 64) → QW d mMo_count 157 (lMo_count_157 a1 0) [] (hpo X mem sw o e) P) (k2 : ((mem 193 26) ≤ a2) → ((mem 193 26) = 64) → P (.inl (some (.int 0)), (hpo X mem sw o e))) (h3 : (¬ (mem 193 26) ≤ a2) → inx (3 * a2) 192) (k4 : (¬ (mem 193 26) ≤ a2) → (¬ (mem 211 (Int32.toNatClampNeg (3 * a2))) = (mem 218 (Int32.toNatClampNeg 0))) → QW d mMo_count 50 (lMo_count_50 a1 (a2 + 1)) [] (hpo X mem sw o e) P) (h5 : (¬ (mem 193 26) ≤ a2) → ((mem 211 (Int32.toNatClampNeg (3 * a2))) = (mem 218 (Int32.toNatClampNeg 0))) → inx ((3 * a2) + 1) 192) (k6 : (¬ (mem 193 26) ≤ a2) → ((mem 211 (Int32.toNatClampNeg (3 * a2))) = (mem 218 (Int32.toNatClampNeg 0))) → (¬ (mem 211 (Int32.toNatClampNeg ((3 * a2) + 1))) = (mem 218 (Int32.toNatClampNeg 1))) → QW d mMo_count 50 (lMo_count_50 a1 (a2 + 1)) [] (hpo X mem sw o e) P) (h7 : (¬ (mem 193 26) ≤ a2) → ((mem 211 (Int32.toNatClampNeg (3 * a2))) = (mem 218 (Int32.toNatClampNeg 0))) → ((mem 211 (Int32.toNatClampNeg ((3 * a2) + 1))) = (mem 218 (Int32.toNatClampNeg 1))) → inx ((3 * a2) + 2) 192) (k8 : (¬ (mem 193 26) ≤ a2) → ((mem 211 (Int32.toNatClampNeg (3 * a2))) = (mem 218 (Int32.toNatClampNeg 0))) → ((mem 211 (Int32.toNatClampNeg ((3 * a2) + 1))) = (mem 218 (Int32.toNatClampNeg 1))) → (¬ (mem 211 (Int32.toNatClampNeg ((3 * a2) + 2))) = (mem 218 (Int32.toNatClampNeg 2))) → QW d mMo_count 50 (lMo_count_50 a1 (a2 + 1)) [] (hpo X mem sw o e) P) (h9 : (¬ (mem 193 26) ≤ a2) → ((mem 211 (Int32.toNatClampNeg (3 * a2))) = (mem 218 (Int32.toNatClampNeg 0))) → ((mem 211 (Int32.toNatClampNeg ((3 * a2) + 1))) = (mem 218 (Int32.toNatClampNeg 1))) → ((mem 211 (Int32.toNatClampNeg ((3 * a2) + 2))) = (mem 218 (Int32.toNatClampNeg 2))) → inx a2 64) (h10 : (¬ (mem 193 26) ≤ a2) → ((mem 211 (Int32.toNatClampNeg (3 * a2))) = (mem 218 (Int32.toNatClampNeg 0))) → ((mem 211 (Int32.toNatClampNeg ((3 * a2) + 1))) = (mem 218 (Int32.toNatClampNeg 1))) → ((mem 211 (Int32.toNatClampNeg ((3 * a2) + 2))) = (mem 218 (Int32.toNatClampNeg 2))) → inx a1 15) (k11 : (¬ (mem 193 26) ≤ a2) → ((mem 211 (Int32.toNatClampNeg (3 * a2))) = (mem 218 (Int32.toNatClampNeg 0))) → ((mem 211 (Int32.toNatClampNeg ((3 * a2) + 1))) = (mem 218 (Int32.toNatClampNeg 1))) → ((mem 211 (Int32.toNatClampNeg ((3 * a2) + 2))) = (mem 218 (Int32.toNatClampNeg 2))) → ((mem 201 (Int32.toNatClampNeg a1)) = 0) → QW d mMo_count 134 (lMo_count_134 a1 a2) [.int 1, .int (mem 212 (Int32.toNatClampNeg a2)), .int a2, .ref 212] (hpo X mem sw o e) P) (k12 : (¬ (mem 193 26) ≤ a2) → ((mem 211 (Int32.toNatClampNeg (3 * a2))) = (mem 218 (Int32.toNatClampNeg 0))) → ((mem 211 (Int32.toNatClampNeg ((3 * a2) + 1))) = (mem 218 (Int32.toNatClampNeg 1))) → ((mem 211 (Int32.toNatClampNeg ((3 * a2) + 2))) = (mem 218 (Int32.toNatClampNeg 2))) → (¬ (mem 201 (Int32.toNatClampNeg a1)) = 0) → QW d mMo_count 134 (lMo_count_134 a1 a2) [.int 0, .int (mem 212 (Int32.toNatClampNeg a2)), .int a2, .ref 212] (hpo X mem sw o e) P) : QW d mMo_count 50 (lMo_count_50 a1 a2) [] (hpo X mem sw o e) P := by
  show QW d mMo_count 50 [.val (.ref 193), .val (.int a1), .val (.int a2)] [] (hpo X mem sw o e) P
  refine QW.iload_n dMo_count_50 rfl rfl ?_
  refine QW.aload_n dMo_count_51 rfl rfl ?_
  refine MW.geti hX dMo_count_52 fMo_212 rfl rfl ?_
  refine QW.icmp_ge (tgt := 144) dMo_count_55 (by decide) (fun z0 => ?_) (fun z0 => ?_)
  · refine QW.aload_n dMo_count_144 rfl rfl ?_
    refine MW.geti hX dMo_count_145 fMo_212 rfl rfl ?_
    refine QW.bipush (v := 64) dMo_count_148 (by decide) ?_
    refine QW.icmp_ne (tgt := 155) dMo_count_150 (by decide) (fun z1 => ?_) (fun z1 => ?_)
    · refine QW.iconst (v := 0) dMo_count_155 (by decide) ?_
      refine QW.istore_n (ls' := [.val (.ref 193), .val (.int a1), .val (.int 0)]) dMo_count_156 rfl rfl ?_
      exact (k1 z0 z1)
    · refine QW.iconst (v := 0) dMo_count_153 (by decide) ?_
      exact QW.iret dMo_count_154 rfl rfl (k2 z0 z1)
  · refine QW.aload_n dMo_count_58 rfl rfl ?_
    refine MW.getr (r' := 211) hX dMo_count_59 fMo_67 rfl rfl (by cases sw <;> rfl) ?_
    refine QW.iconst (v := 3) dMo_count_62 (by decide) ?_
    refine QW.iload_n dMo_count_63 rfl rfl ?_
    refine QW.imul dMo_count_64 ?_
    refine MW.iald hX dMo_count_65 rfl (h3 z0).1 (rep_get (h3 z0).2) ?_
    refine QW.aload_n dMo_count_66 rfl rfl ?_
    refine MW.getr (r' := 218) hX dMo_count_67 fMo_88 rfl rfl (by cases sw <;> rfl) ?_
    refine QW.iconst (v := 0) dMo_count_70 (by decide) ?_
    refine MW.iald hX dMo_count_71 rfl (show inx 0 3 from ⟨by decide, by decide⟩).1 (rep_get (show inx 0 3 from ⟨by decide, by decide⟩).2) ?_
    refine QW.icmp_ne (tgt := 138) dMo_count_72 (by decide) (fun z1 => ?_) (fun z1 => ?_)
    · refine MW.iinc (c := 1) (ls' := [.val (.ref 193), .val (.int a1), .val (.int (a2 + 1))]) dMo_count_138 (by decide) rfl rfl ?_
      refine QW.goto (tgt := 50) dMo_count_141 (by decide) ?_
      exact (k4 z0 z1)
    · refine QW.aload_n dMo_count_75 rfl rfl ?_
      refine MW.getr (r' := 211) hX dMo_count_76 fMo_67 rfl rfl (by cases sw <;> rfl) ?_
      refine QW.iconst (v := 3) dMo_count_79 (by decide) ?_
      refine QW.iload_n dMo_count_80 rfl rfl ?_
      refine QW.imul dMo_count_81 ?_
      refine QW.iconst (v := 1) dMo_count_82 (by decide) ?_
      refine QW.iadd dMo_count_83 ?_
      refine MW.iald hX dMo_count_84 rfl (h5 z0 z1).1 (rep_get (h5 z0 z1).2) ?_
      refine QW.aload_n dMo_count_85 rfl rfl ?_
      refine MW.getr (r' := 218) hX dMo_count_86 fMo_88 rfl rfl (by cases sw <;> rfl) ?_
      refine QW.iconst (v := 1) dMo_count_89 (by decide) ?_
      refine MW.iald hX dMo_count_90 rfl (show inx 1 3 from ⟨by decide, by decide⟩).1 (rep_get (show inx 1 3 from ⟨by decide, by decide⟩).2) ?_
      refine QW.icmp_ne (tgt := 138) dMo_count_91 (by decide) (fun z2 => ?_) (fun z2 => ?_)
      · refine MW.iinc (c := 1) (ls' := [.val (.ref 193), .val (.int a1), .val (.int (a2 + 1))]) dMo_count_138 (by decide) rfl rfl ?_
        refine QW.goto (tgt := 50) dMo_count_141 (by decide) ?_
        exact (k6 z0 z1 z2)
      · refine QW.aload_n dMo_count_94 rfl rfl ?_
        refine MW.getr (r' := 211) hX dMo_count_95 fMo_67 rfl rfl (by cases sw <;> rfl) ?_
        refine QW.iconst (v := 3) dMo_count_98 (by decide) ?_
        refine QW.iload_n dMo_count_99 rfl rfl ?_
        refine QW.imul dMo_count_100 ?_
        refine QW.iconst (v := 2) dMo_count_101 (by decide) ?_
        refine QW.iadd dMo_count_102 ?_
        refine MW.iald hX dMo_count_103 rfl (h7 z0 z1 z2).1 (rep_get (h7 z0 z1 z2).2) ?_
        refine QW.aload_n dMo_count_104 rfl rfl ?_
        refine MW.getr (r' := 218) hX dMo_count_105 fMo_88 rfl rfl (by cases sw <;> rfl) ?_
        refine QW.iconst (v := 2) dMo_count_108 (by decide) ?_
        refine MW.iald hX dMo_count_109 rfl (show inx 2 3 from ⟨by decide, by decide⟩).1 (rep_get (show inx 2 3 from ⟨by decide, by decide⟩).2) ?_
        refine QW.icmp_ne (tgt := 138) dMo_count_110 (by decide) (fun z3 => ?_) (fun z3 => ?_)
        · refine MW.iinc (c := 1) (ls' := [.val (.ref 193), .val (.int a1), .val (.int (a2 + 1))]) dMo_count_138 (by decide) rfl rfl ?_
          refine QW.goto (tgt := 50) dMo_count_141 (by decide) ?_
          exact (k8 z0 z1 z2 z3)
        · refine QW.aload_n dMo_count_113 rfl rfl ?_
          refine MW.getr (r' := 212) hX dMo_count_114 fMo_70 rfl rfl (by cases sw <;> rfl) ?_
          refine QW.iload_n dMo_count_117 rfl rfl ?_
          refine QW.dup2 dMo_count_118 rfl rfl ?_
          refine MW.iald hX dMo_count_119 rfl (h9 z0 z1 z2 z3).1 (rep_get (h9 z0 z1 z2 z3).2) ?_
          refine QW.aload_n dMo_count_120 rfl rfl ?_
          refine MW.getr (r' := 201) hX dMo_count_121 fMo_37 rfl rfl (by cases sw <;> rfl) ?_
          refine QW.iload_n dMo_count_124 rfl rfl ?_
          refine MW.zald hX dMo_count_125 rfl (h10 z0 z1 z2 z3).1 (rep_get (h10 z0 z1 z2 z3).2) ?_
          refine QW.if_eq (tgt := 133) dMo_count_126 (by decide) (fun z4 => ?_) (fun z4 => ?_)
          · refine QW.iconst (v := 1) dMo_count_133 (by decide) ?_
            exact (k11 z0 z1 z2 z3 z4)
          · refine QW.iconst (v := 0) dMo_count_129 (by decide) ?_
            refine QW.goto (tgt := 134) dMo_count_130 (by decide) ?_
            exact (k12 z0 z1 z2 z3 z4)
theorem bMo_count_134 {a1 : Int32} {a2 : Int32} {s3 : Int32} {s2 : Int32} {s1 : Int32} (hX : X.length = 13) (h1 : inx s1 64) (k2 : P (.inl (some (.int 1)), (hpo X (mup mem 212 (Int32.toNatClampNeg s1) (s2 + s3)) sw o e))) : QW d mMo_count 134 (lMo_count_134 a1 a2) [.int s3, .int s2, .int s1, .ref 212] (hpo X mem sw o e) P := by
  show QW d mMo_count 134 [.val (.ref 193), .val (.int a1), .val (.int a2)] [.int s3, .int s2, .int s1, .ref 212] (hpo X mem sw o e) P
  refine QW.iadd dMo_count_134 ?_
  refine MW.iast hX dMo_count_135 rfl h1.1 (rep_get h1.2) ?_
  refine QW.iconst (v := 1) dMo_count_136 (by decide) ?_
  exact QW.iret dMo_count_137 rfl rfl k2
theorem bMo_count_157 {a1 : Int32} {a2 : Int32} (hX : X.length = 13) (h1 : (3 ≤ a2) → inx (mem 193 26) 64) (k2 : (3 ≤ a2) → P (.inl (some (.int 1)), (hpo X (mup (mup mem 212 (Int32.toNatClampNeg (mem 193 26)) 1) 193 26 (((mup mem 212 (Int32.toNatClampNeg (mem 193 26)) 1) 193 26) + 1)) sw o e))) (h3 : (¬ 3 ≤ a2) → inx a2 3) (h4 : (¬ 3 ≤ a2) → inx ((3 * (mem 193 26)) + a2) 192) (k5 : (¬ 3 ≤ a2) → QW d mMo_count 157 (lMo_count_157 a1 (a2 + 1)) [] (hpo X (mup mem 211 (Int32.toNatClampNeg ((3 * (mem 193 26)) + a2)) (mem 218 (Int32.toNatClampNeg a2))) sw o e) P) : QW d mMo_count 157 (lMo_count_157 a1 a2) [] (hpo X mem sw o e) P := by
  show QW d mMo_count 157 [.val (.ref 193), .val (.int a1), .val (.int a2)] [] (hpo X mem sw o e) P
  refine QW.iload_n dMo_count_157 rfl rfl ?_
  refine QW.iconst (v := 3) dMo_count_158 (by decide) ?_
  refine QW.icmp_ge (tgt := 187) dMo_count_159 (by decide) (fun z0 => ?_) (fun z0 => ?_)
  · refine QW.aload_n dMo_count_187 rfl rfl ?_
    refine MW.getr (r' := 212) hX dMo_count_188 fMo_70 rfl rfl (by cases sw <;> rfl) ?_
    refine QW.aload_n dMo_count_191 rfl rfl ?_
    refine MW.geti hX dMo_count_192 fMo_212 rfl rfl ?_
    refine QW.iconst (v := 1) dMo_count_195 (by decide) ?_
    refine MW.iast hX dMo_count_196 rfl (h1 z0).1 (rep_get (h1 z0).2) ?_
    refine QW.aload_n dMo_count_197 rfl rfl ?_
    refine QW.dup dMo_count_198 rfl ?_
    refine MW.geti hX dMo_count_199 fMo_212 rfl rfl ?_
    refine QW.iconst (v := 1) dMo_count_202 (by decide) ?_
    refine QW.iadd dMo_count_203 ?_
    refine MW.puti hX dMo_count_204 fMo_212 rfl rfl rfl ?_
    refine QW.iconst (v := 1) dMo_count_207 (by decide) ?_
    exact QW.iret dMo_count_208 rfl rfl (k2 z0)
  · refine QW.aload_n dMo_count_162 rfl rfl ?_
    refine MW.getr (r' := 211) hX dMo_count_163 fMo_67 rfl rfl (by cases sw <;> rfl) ?_
    refine QW.iconst (v := 3) dMo_count_166 (by decide) ?_
    refine QW.aload_n dMo_count_167 rfl rfl ?_
    refine MW.geti hX dMo_count_168 fMo_212 rfl rfl ?_
    refine QW.imul dMo_count_171 ?_
    refine QW.iload_n dMo_count_172 rfl rfl ?_
    refine QW.iadd dMo_count_173 ?_
    refine QW.aload_n dMo_count_174 rfl rfl ?_
    refine MW.getr (r' := 218) hX dMo_count_175 fMo_88 rfl rfl (by cases sw <;> rfl) ?_
    refine QW.iload_n dMo_count_178 rfl rfl ?_
    refine MW.iald hX dMo_count_179 rfl (h3 z0).1 (rep_get (h3 z0).2) ?_
    refine MW.iast hX dMo_count_180 rfl (h4 z0).1 (rep_get (h4 z0).2) ?_
    refine MW.iinc (c := 1) (ls' := [.val (.ref 193), .val (.int a1), .val (.int (a2 + 1))]) dMo_count_181 (by decide) rfl rfl ?_
    refine QW.goto (tgt := 157) dMo_count_184 (by decide) ?_
    exact (k5 z0)
theorem dMo_take_0 : decode mMo_take.2.1 0 = .ok (.aload_n 0, 1) := by decide +kernel
theorem dMo_take_1 : decode mMo_take.2.1 1 = .ok (.iconst 0, 1) := by decide +kernel
theorem dMo_take_2 : decode mMo_take.2.1 2 = .ok (.putfield 212, 3) := by decide +kernel
theorem dMo_take_5 : decode mMo_take.2.1 5 = .ok (.iconst 1, 1) := by decide +kernel
theorem dMo_take_6 : decode mMo_take.2.1 6 = .ok (.istore_n 2, 1) := by decide +kernel
theorem dMo_take_7 : decode mMo_take.2.1 7 = .ok (.iconst 0, 1) := by decide +kernel
theorem dMo_take_8 : decode mMo_take.2.1 8 = .ok (.istore_n 3, 1) := by decide +kernel
theorem dMo_take_9 : decode mMo_take.2.1 9 = .ok (.iload_n 3, 1) := by decide +kernel
theorem dMo_take_10 : decode mMo_take.2.1 10 = .ok (.aload_n 0, 1) := by decide +kernel
theorem dMo_take_11 : decode mMo_take.2.1 11 = .ok (.getfield 46, 3) := by decide +kernel
theorem dMo_take_14 : decode mMo_take.2.1 14 = .ok (.iload_n 1, 1) := by decide +kernel
theorem dMo_take_15 : decode mMo_take.2.1 15 = .ok (.iaload, 1) := by decide +kernel
theorem dMo_take_16 : decode mMo_take.2.1 16 = .ok (.if_icmp .ge 27, 3) := by decide +kernel
theorem dMo_take_19 : decode mMo_take.2.1 19 = .ok (.iload_n 2, 1) := by decide +kernel
theorem dMo_take_20 : decode mMo_take.2.1 20 = .ok (.aload_n 0, 1) := by decide +kernel
theorem dMo_take_21 : decode mMo_take.2.1 21 = .ok (.getfield 13, 3) := by decide +kernel
theorem dMo_take_24 : decode mMo_take.2.1 24 = .ok (.aload_n 0, 1) := by decide +kernel
theorem dMo_take_25 : decode mMo_take.2.1 25 = .ok (.getfield 49, 3) := by decide +kernel
theorem dMo_take_28 : decode mMo_take.2.1 28 = .ok (.iconst 4, 1) := by decide +kernel
theorem dMo_take_29 : decode mMo_take.2.1 29 = .ok (.iload_n 1, 1) := by decide +kernel
theorem dMo_take_30 : decode mMo_take.2.1 30 = .ok (.imul, 1) := by decide +kernel
theorem dMo_take_31 : decode mMo_take.2.1 31 = .ok (.iload_n 3, 1) := by decide +kernel
theorem dMo_take_32 : decode mMo_take.2.1 32 = .ok (.iadd, 1) := by decide +kernel
theorem dMo_take_33 : decode mMo_take.2.1 33 = .ok (.iaload, 1) := by decide +kernel
theorem dMo_take_34 : decode mMo_take.2.1 34 = .ok (.iaload, 1) := by decide +kernel
theorem dMo_take_35 : decode mMo_take.2.1 35 = .ok (.imul, 1) := by decide +kernel
theorem dMo_take_36 : decode mMo_take.2.1 36 = .ok (.istore_n 2, 1) := by decide +kernel
theorem dMo_take_37 : decode mMo_take.2.1 37 = .ok (.iinc 3 1, 3) := by decide +kernel
theorem dMo_take_40 : decode mMo_take.2.1 40 = .ok (.goto (-31), 3) := by decide +kernel
theorem dMo_take_43 : decode mMo_take.2.1 43 = .ok (.iconst 0, 1) := by decide +kernel
theorem dMo_take_44 : decode mMo_take.2.1 44 = .ok (.istore_n 3, 1) := by decide +kernel
theorem dMo_take_45 : decode mMo_take.2.1 45 = .ok (.iload_n 3, 1) := by decide +kernel
theorem dMo_take_46 : decode mMo_take.2.1 46 = .ok (.iload_n 2, 1) := by decide +kernel
theorem dMo_take_47 : decode mMo_take.2.1 47 = .ok (.if_icmp .ge 97, 3) := by decide +kernel
theorem dMo_take_50 : decode mMo_take.2.1 50 = .ok (.iload_n 3, 1) := by decide +kernel
theorem dMo_take_51 : decode mMo_take.2.1 51 = .ok (.istore 4, 2) := by decide +kernel
theorem dMo_take_53 : decode mMo_take.2.1 53 = .ok (.iconst 0, 1) := by decide +kernel
theorem dMo_take_54 : decode mMo_take.2.1 54 = .ok (.istore 5, 2) := by decide +kernel
theorem dMo_take_56 : decode mMo_take.2.1 56 = .ok (.iload 5, 2) := by decide +kernel
theorem dMo_take_58 : decode mMo_take.2.1 58 = .ok (.aload_n 0, 1) := by decide +kernel
theorem dMo_take_59 : decode mMo_take.2.1 59 = .ok (.getfield 46, 3) := by decide +kernel
theorem dMo_take_62 : decode mMo_take.2.1 62 = .ok (.iload_n 1, 1) := by decide +kernel
theorem dMo_take_63 : decode mMo_take.2.1 63 = .ok (.iaload, 1) := by decide +kernel
theorem dMo_take_64 : decode mMo_take.2.1 64 = .ok (.if_icmp .ge 56, 3) := by decide +kernel
theorem dMo_take_67 : decode mMo_take.2.1 67 = .ok (.aload_n 0, 1) := by decide +kernel
theorem dMo_take_68 : decode mMo_take.2.1 68 = .ok (.getfield 85, 3) := by decide +kernel
theorem dMo_take_71 : decode mMo_take.2.1 71 = .ok (.iload 5, 2) := by decide +kernel
theorem dMo_take_73 : decode mMo_take.2.1 73 = .ok (.iload 4, 2) := by decide +kernel
theorem dMo_take_75 : decode mMo_take.2.1 75 = .ok (.aload_n 0, 1) := by decide +kernel
theorem dMo_take_76 : decode mMo_take.2.1 76 = .ok (.getfield 13, 3) := by decide +kernel
theorem dMo_take_79 : decode mMo_take.2.1 79 = .ok (.aload_n 0, 1) := by decide +kernel
theorem dMo_take_80 : decode mMo_take.2.1 80 = .ok (.getfield 49, 3) := by decide +kernel
theorem dMo_take_83 : decode mMo_take.2.1 83 = .ok (.iconst 4, 1) := by decide +kernel
theorem dMo_take_84 : decode mMo_take.2.1 84 = .ok (.iload_n 1, 1) := by decide +kernel
theorem dMo_take_85 : decode mMo_take.2.1 85 = .ok (.imul, 1) := by decide +kernel
theorem dMo_take_86 : decode mMo_take.2.1 86 = .ok (.iload 5, 2) := by decide +kernel
theorem dMo_take_88 : decode mMo_take.2.1 88 = .ok (.iadd, 1) := by decide +kernel
theorem dMo_take_89 : decode mMo_take.2.1 89 = .ok (.iaload, 1) := by decide +kernel
theorem dMo_take_90 : decode mMo_take.2.1 90 = .ok (.iaload, 1) := by decide +kernel
theorem dMo_take_91 : decode mMo_take.2.1 91 = .ok (.irem, 1) := by decide +kernel
theorem dMo_take_92 : decode mMo_take.2.1 92 = .ok (.iastore, 1) := by decide +kernel
theorem dMo_take_93 : decode mMo_take.2.1 93 = .ok (.iload 4, 2) := by decide +kernel
theorem dMo_take_95 : decode mMo_take.2.1 95 = .ok (.aload_n 0, 1) := by decide +kernel
theorem dMo_take_96 : decode mMo_take.2.1 96 = .ok (.getfield 13, 3) := by decide +kernel
theorem dMo_take_99 : decode mMo_take.2.1 99 = .ok (.aload_n 0, 1) := by decide +kernel
theorem dMo_take_100 : decode mMo_take.2.1 100 = .ok (.getfield 49, 3) := by decide +kernel
theorem dMo_take_103 : decode mMo_take.2.1 103 = .ok (.iconst 4, 1) := by decide +kernel
theorem dMo_take_104 : decode mMo_take.2.1 104 = .ok (.iload_n 1, 1) := by decide +kernel
theorem dMo_take_105 : decode mMo_take.2.1 105 = .ok (.imul, 1) := by decide +kernel
theorem dMo_take_106 : decode mMo_take.2.1 106 = .ok (.iload 5, 2) := by decide +kernel
theorem dMo_take_108 : decode mMo_take.2.1 108 = .ok (.iadd, 1) := by decide +kernel
theorem dMo_take_109 : decode mMo_take.2.1 109 = .ok (.iaload, 1) := by decide +kernel
theorem dMo_take_110 : decode mMo_take.2.1 110 = .ok (.iaload, 1) := by decide +kernel
theorem dMo_take_111 : decode mMo_take.2.1 111 = .ok (.idiv, 1) := by decide +kernel
theorem dMo_take_112 : decode mMo_take.2.1 112 = .ok (.istore 4, 2) := by decide +kernel
theorem dMo_take_114 : decode mMo_take.2.1 114 = .ok (.iinc 5 1, 3) := by decide +kernel
theorem dMo_take_117 : decode mMo_take.2.1 117 = .ok (.goto (-61), 3) := by decide +kernel
theorem dMo_take_120 : decode mMo_take.2.1 120 = .ok (.aload_n 0, 1) := by decide +kernel
theorem dMo_take_121 : decode mMo_take.2.1 121 = .ok (.iload_n 1, 1) := by decide +kernel
theorem dMo_take_122 : decode mMo_take.2.1 122 = .ok (.invokevirtual 215, 3) := by decide +kernel
theorem dMo_take_125 : decode mMo_take.2.1 125 = .ok (.ifCond .eq 13, 3) := by decide +kernel
theorem dMo_take_128 : decode mMo_take.2.1 128 = .ok (.aload_n 0, 1) := by decide +kernel
theorem dMo_take_129 : decode mMo_take.2.1 129 = .ok (.iload_n 1, 1) := by decide +kernel
theorem dMo_take_130 : decode mMo_take.2.1 130 = .ok (.invokevirtual 218, 3) := by decide +kernel
theorem dMo_take_133 : decode mMo_take.2.1 133 = .ok (.ifCond .ne 5, 3) := by decide +kernel
theorem dMo_take_136 : decode mMo_take.2.1 136 = .ok (.iconst 0, 1) := by decide +kernel
theorem dMo_take_137 : decode mMo_take.2.1 137 = .ok (.ireturn, 1) := by decide +kernel
theorem dMo_take_138 : decode mMo_take.2.1 138 = .ok (.iinc 3 1, 3) := by decide +kernel
theorem dMo_take_141 : decode mMo_take.2.1 141 = .ok (.goto (-96), 3) := by decide +kernel
theorem dMo_take_144 : decode mMo_take.2.1 144 = .ok (.iconst 1, 1) := by decide +kernel
theorem dMo_take_145 : decode mMo_take.2.1 145 = .ok (.ireturn, 1) := by decide +kernel
def lMo_take_9 (a1 : Int32) (a2 : Int32) (a3 : Int32) : List Slot := [.val (.ref 193), .val (.int a1), .val (.int a2), .val (.int a3), .unset, .unset]
def lMo_take_45 (a1 : Int32) (a2 : Int32) (a3 : Int32) (w4 : Slot) (w5 : Slot) : List Slot := [.val (.ref 193), .val (.int a1), .val (.int a2), .val (.int a3), w4, w5]
def lMo_take_56 (a1 : Int32) (a2 : Int32) (a3 : Int32) (a4 : Int32) (a5 : Int32) : List Slot := [.val (.ref 193), .val (.int a1), .val (.int a2), .val (.int a3), .val (.int a4), .val (.int a5)]
def lMo_take_125 (a1 : Int32) (a2 : Int32) (a3 : Int32) (a4 : Int32) (a5 : Int32) : List Slot := [.val (.ref 193), .val (.int a1), .val (.int a2), .val (.int a3), .val (.int a4), .val (.int a5)]
def lMo_take_133 (a1 : Int32) (a2 : Int32) (a3 : Int32) (a4 : Int32) (a5 : Int32) : List Slot := [.val (.ref 193), .val (.int a1), .val (.int a2), .val (.int a3), .val (.int a4), .val (.int a5)]
theorem bMo_take_0 {a1 : Int32} (hX : X.length = 13) (k1 : QW d mMo_take 9 (lMo_take_9 a1 1 0) [] (hpo X (mup mem 193 26 0) sw o e) P) : QW d mMo_take 0 (qen 6 [.ref 193, .int a1]) [] (hpo X mem sw o e) P := by
  show QW d mMo_take 0 [.val (.ref 193), .val (.int a1), .unset, .unset, .unset, .unset] [] (hpo X mem sw o e) P
  refine QW.aload_n dMo_take_0 rfl rfl ?_
  refine QW.iconst (v := 0) dMo_take_1 (by decide) ?_
  refine MW.puti hX dMo_take_2 fMo_212 rfl rfl rfl ?_
  refine QW.iconst (v := 1) dMo_take_5 (by decide) ?_
  refine QW.istore_n (ls' := [.val (.ref 193), .val (.int a1), .val (.int 1), .unset, .unset, .unset]) dMo_take_6 rfl rfl ?_
  refine QW.iconst (v := 0) dMo_take_7 (by decide) ?_
  refine QW.istore_n (ls' := [.val (.ref 193), .val (.int a1), .val (.int 1), .val (.int 0), .unset, .unset]) dMo_take_8 rfl rfl ?_
  exact k1
theorem bMo_take_9 {a1 : Int32} {a2 : Int32} {a3 : Int32} (hX : X.length = 13) (h1 : inx a1 15) (k2 : ((mem 204 (Int32.toNatClampNeg a1)) ≤ a3) → QW d mMo_take 45 (lMo_take_45 a1 a2 0 .unset .unset) [] (hpo X mem sw o e) P) (h3 : (¬ (mem 204 (Int32.toNatClampNeg a1)) ≤ a3) → inx ((4 * a1) + a3) 60) (h4 : (¬ (mem 204 (Int32.toNatClampNeg a1)) ≤ a3) → inx (mem 205 (Int32.toNatClampNeg ((4 * a1) + a3))) 4) (k5 : (¬ (mem 204 (Int32.toNatClampNeg a1)) ≤ a3) → QW d mMo_take 9 (lMo_take_9 a1 (a2 * (mem 195 (Int32.toNatClampNeg (mem 205 (Int32.toNatClampNeg ((4 * a1) + a3)))))) (a3 + 1)) [] (hpo X mem sw o e) P) : QW d mMo_take 9 (lMo_take_9 a1 a2 a3) [] (hpo X mem sw o e) P := by
  show QW d mMo_take 9 [.val (.ref 193), .val (.int a1), .val (.int a2), .val (.int a3), .unset, .unset] [] (hpo X mem sw o e) P
  refine QW.iload_n dMo_take_9 rfl rfl ?_
  refine QW.aload_n dMo_take_10 rfl rfl ?_
  refine MW.getr (r' := 204) hX dMo_take_11 fMo_46 rfl rfl (by cases sw <;> rfl) ?_
  refine QW.iload_n dMo_take_14 rfl rfl ?_
  refine MW.iald hX dMo_take_15 rfl h1.1 (rep_get h1.2) ?_
  refine QW.icmp_ge (tgt := 43) dMo_take_16 (by decide) (fun z0 => ?_) (fun z0 => ?_)
  · refine QW.iconst (v := 0) dMo_take_43 (by decide) ?_
    refine QW.istore_n (ls' := [.val (.ref 193), .val (.int a1), .val (.int a2), .val (.int 0), .unset, .unset]) dMo_take_44 rfl rfl ?_
    exact (k2 z0)
  · refine QW.iload_n dMo_take_19 rfl rfl ?_
    refine QW.aload_n dMo_take_20 rfl rfl ?_
    refine MW.getr (r' := 195) hX dMo_take_21 fMo_13 rfl rfl (by cases sw <;> rfl) ?_
    refine QW.aload_n dMo_take_24 rfl rfl ?_
    refine MW.getr (r' := 205) hX dMo_take_25 fMo_49 rfl rfl (by cases sw <;> rfl) ?_
    refine QW.iconst (v := 4) dMo_take_28 (by decide) ?_
    refine QW.iload_n dMo_take_29 rfl rfl ?_
    refine QW.imul dMo_take_30 ?_
    refine QW.iload_n dMo_take_31 rfl rfl ?_
    refine QW.iadd dMo_take_32 ?_
    refine MW.iald hX dMo_take_33 rfl (h3 z0).1 (rep_get (h3 z0).2) ?_
    refine MW.iald hX dMo_take_34 rfl (h4 z0).1 (rep_get (h4 z0).2) ?_
    refine QW.imul dMo_take_35 ?_
    refine QW.istore_n (ls' := [.val (.ref 193), .val (.int a1), .val (.int (a2 * (mem 195 (Int32.toNatClampNeg (mem 205 (Int32.toNatClampNeg ((4 * a1) + a3))))))), .val (.int a3), .unset, .unset]) dMo_take_36 rfl rfl ?_
    refine MW.iinc (c := 1) (ls' := [.val (.ref 193), .val (.int a1), .val (.int (a2 * (mem 195 (Int32.toNatClampNeg (mem 205 (Int32.toNatClampNeg ((4 * a1) + a3))))))), .val (.int (a3 + 1)), .unset, .unset]) dMo_take_37 (by decide) rfl rfl ?_
    refine QW.goto (tgt := 9) dMo_take_40 (by decide) ?_
    exact (k5 z0)
theorem bMo_take_45 {a1 : Int32} {a2 : Int32} {a3 : Int32} {w4 : Slot} {w5 : Slot} (hX : X.length = 13) (hw4 : qfr w4) (hw5 : qfr w5) (k1 : (a2 ≤ a3) → P (.inl (some (.int 1)), (hpo X mem sw o e))) (k2 : (¬ a2 ≤ a3) → QW d mMo_take 56 (lMo_take_56 a1 a2 a3 a3 0) [] (hpo X mem sw o e) P) : QW d mMo_take 45 (lMo_take_45 a1 a2 a3 w4 w5) [] (hpo X mem sw o e) P := by
  show QW d mMo_take 45 [.val (.ref 193), .val (.int a1), .val (.int a2), .val (.int a3), w4, w5] [] (hpo X mem sw o e) P
  refine QW.iload_n dMo_take_45 rfl rfl ?_
  refine QW.iload_n dMo_take_46 rfl rfl ?_
  refine QW.icmp_ge (tgt := 144) dMo_take_47 (by decide) (fun z0 => ?_) (fun z0 => ?_)
  · refine QW.iconst (v := 1) dMo_take_144 (by decide) ?_
    exact QW.iret dMo_take_145 rfl rfl (k1 z0)
  · refine QW.iload_n dMo_take_50 rfl rfl ?_
    refine QW.istore (ls' := [.val (.ref 193), .val (.int a1), .val (.int a2), .val (.int a3), .val (.int a3), w5]) dMo_take_51 (by rcases hw4 with z | ⟨_, z⟩ | ⟨_, z⟩ <;> subst z <;> rfl) ?_
    refine QW.iconst (v := 0) dMo_take_53 (by decide) ?_
    refine QW.istore (ls' := [.val (.ref 193), .val (.int a1), .val (.int a2), .val (.int a3), .val (.int a3), .val (.int 0)]) dMo_take_54 (by rcases hw5 with z | ⟨_, z⟩ | ⟨_, z⟩ <;> subst z <;> rfl) ?_
    exact (k2 z0)
theorem bMo_take_56 {a1 : Int32} {a2 : Int32} {a3 : Int32} {a4 : Int32} {a5 : Int32} (hX : X.length = 13) (h1 : inx a1 15) (k2 : ((mem 204 (Int32.toNatClampNeg a1)) ≤ a5) → QW d mMo_allTrue 0 (qen 6 [.ref 193, .int a1]) [] (hpo X mem sw o e) (qcl d mMo_take 122 125 (lMo_take_125 a1 a2 a3 a4 a5) [] P)) (h3 : (¬ (mem 204 (Int32.toNatClampNeg a1)) ≤ a5) → inx ((4 * a1) + a5) 60) (h4 : (¬ (mem 204 (Int32.toNatClampNeg a1)) ≤ a5) → inx (mem 205 (Int32.toNatClampNeg ((4 * a1) + a5))) 4) (h5 : (¬ (mem 204 (Int32.toNatClampNeg a1)) ≤ a5) → ¬ (mem 195 (Int32.toNatClampNeg (mem 205 (Int32.toNatClampNeg ((4 * a1) + a5))))) = 0) (h6 : (¬ (mem 204 (Int32.toNatClampNeg a1)) ≤ a5) → inx a5 4) (h7 : (¬ (mem 204 (Int32.toNatClampNeg a1)) ≤ a5) → inx ((4 * a1) + a5) 60) (h8 : (¬ (mem 204 (Int32.toNatClampNeg a1)) ≤ a5) → inx ((mup mem 217 (Int32.toNatClampNeg a5) (a4 - a4 / (mem 195 (Int32.toNatClampNeg (mem 205 (Int32.toNatClampNeg ((4 * a1) + a5))))) * (mem 195 (Int32.toNatClampNeg (mem 205 (Int32.toNatClampNeg ((4 * a1) + a5))))))) 205 (Int32.toNatClampNeg ((4 * a1) + a5))) 4) (h9 : (¬ (mem 204 (Int32.toNatClampNeg a1)) ≤ a5) → ¬ ((mup mem 217 (Int32.toNatClampNeg a5) (a4 - a4 / (mem 195 (Int32.toNatClampNeg (mem 205 (Int32.toNatClampNeg ((4 * a1) + a5))))) * (mem 195 (Int32.toNatClampNeg (mem 205 (Int32.toNatClampNeg ((4 * a1) + a5))))))) 195 (Int32.toNatClampNeg ((mup mem 217 (Int32.toNatClampNeg a5) (a4 - a4 / (mem 195 (Int32.toNatClampNeg (mem 205 (Int32.toNatClampNeg ((4 * a1) + a5))))) * (mem 195 (Int32.toNatClampNeg (mem 205 (Int32.toNatClampNeg ((4 * a1) + a5))))))) 205 (Int32.toNatClampNeg ((4 * a1) + a5))))) = 0) (k10 : (¬ (mem 204 (Int32.toNatClampNeg a1)) ≤ a5) → QW (d + 1) mMo_take 56 (lMo_take_56 a1 a2 a3 (a4 / ((mup mem 217 (Int32.toNatClampNeg a5) (a4 - a4 / (mem 195 (Int32.toNatClampNeg (mem 205 (Int32.toNatClampNeg ((4 * a1) + a5))))) * (mem 195 (Int32.toNatClampNeg (mem 205 (Int32.toNatClampNeg ((4 * a1) + a5))))))) 195 (Int32.toNatClampNeg ((mup mem 217 (Int32.toNatClampNeg a5) (a4 - a4 / (mem 195 (Int32.toNatClampNeg (mem 205 (Int32.toNatClampNeg ((4 * a1) + a5))))) * (mem 195 (Int32.toNatClampNeg (mem 205 (Int32.toNatClampNeg ((4 * a1) + a5))))))) 205 (Int32.toNatClampNeg ((4 * a1) + a5)))))) (a5 + 1)) [] (hpo X (mup mem 217 (Int32.toNatClampNeg a5) (a4 - a4 / (mem 195 (Int32.toNatClampNeg (mem 205 (Int32.toNatClampNeg ((4 * a1) + a5))))) * (mem 195 (Int32.toNatClampNeg (mem 205 (Int32.toNatClampNeg ((4 * a1) + a5))))))) sw o e) P) : QW (d + 1) mMo_take 56 (lMo_take_56 a1 a2 a3 a4 a5) [] (hpo X mem sw o e) P := by
  show QW (d + 1) mMo_take 56 [.val (.ref 193), .val (.int a1), .val (.int a2), .val (.int a3), .val (.int a4), .val (.int a5)] [] (hpo X mem sw o e) P
  refine QW.iload dMo_take_56 rfl ?_
  refine QW.aload_n dMo_take_58 rfl rfl ?_
  refine MW.getr (r' := 204) hX dMo_take_59 fMo_46 rfl rfl (by cases sw <;> rfl) ?_
  refine QW.iload_n dMo_take_62 rfl rfl ?_
  refine MW.iald hX dMo_take_63 rfl h1.1 (rep_get h1.2) ?_
  refine QW.icmp_ge (tgt := 120) dMo_take_64 (by decide) (fun z0 => ?_) (fun z0 => ?_)
  · refine QW.aload_n dMo_take_120 rfl rfl ?_
    refine QW.iload_n dMo_take_121 rfl rfl ?_
    exact MW.calV (as := [.int a1]) (rest := []) hX dMo_take_122 eMo_allTrue lMo_215 iMo_allTrue vMo_allTrue rfl rfl rfl rfl rfl rfl (Nat.le_of_ble_eq_true rfl) rfl (k2 z0)
  · refine QW.aload_n dMo_take_67 rfl rfl ?_
    refine MW.getr (r' := 217) hX dMo_take_68 fMo_85 rfl rfl (by cases sw <;> rfl) ?_
    refine QW.iload dMo_take_71 rfl ?_
    refine QW.iload dMo_take_73 rfl ?_
    refine QW.aload_n dMo_take_75 rfl rfl ?_
    refine MW.getr (r' := 195) hX dMo_take_76 fMo_13 rfl rfl (by cases sw <;> rfl) ?_
    refine QW.aload_n dMo_take_79 rfl rfl ?_
    refine MW.getr (r' := 205) hX dMo_take_80 fMo_49 rfl rfl (by cases sw <;> rfl) ?_
    refine QW.iconst (v := 4) dMo_take_83 (by decide) ?_
    refine QW.iload_n dMo_take_84 rfl rfl ?_
    refine QW.imul dMo_take_85 ?_
    refine QW.iload dMo_take_86 rfl ?_
    refine QW.iadd dMo_take_88 ?_
    refine MW.iald hX dMo_take_89 rfl (h3 z0).1 (rep_get (h3 z0).2) ?_
    refine MW.iald hX dMo_take_90 rfl (h4 z0).1 (rep_get (h4 z0).2) ?_
    refine QW.irem dMo_take_91 (h5 z0) ?_
    refine MW.iast hX dMo_take_92 rfl (h6 z0).1 (rep_get (h6 z0).2) ?_
    refine QW.iload dMo_take_93 rfl ?_
    refine QW.aload_n dMo_take_95 rfl rfl ?_
    refine MW.getr (r' := 195) hX dMo_take_96 fMo_13 rfl rfl (by cases sw <;> rfl) ?_
    refine QW.aload_n dMo_take_99 rfl rfl ?_
    refine MW.getr (r' := 205) hX dMo_take_100 fMo_49 rfl rfl (by cases sw <;> rfl) ?_
    refine QW.iconst (v := 4) dMo_take_103 (by decide) ?_
    refine QW.iload_n dMo_take_104 rfl rfl ?_
    refine QW.imul dMo_take_105 ?_
    refine QW.iload dMo_take_106 rfl ?_
    refine QW.iadd dMo_take_108 ?_
    refine MW.iald hX dMo_take_109 rfl (h7 z0).1 (rep_get (h7 z0).2) ?_
    refine MW.iald hX dMo_take_110 rfl (h8 z0).1 (rep_get (h8 z0).2) ?_
    refine QW.idiv dMo_take_111 (h9 z0) ?_
    refine QW.istore (ls' := [.val (.ref 193), .val (.int a1), .val (.int a2), .val (.int a3), .val (.int (a4 / ((mup mem 217 (Int32.toNatClampNeg a5) (a4 - a4 / (mem 195 (Int32.toNatClampNeg (mem 205 (Int32.toNatClampNeg ((4 * a1) + a5))))) * (mem 195 (Int32.toNatClampNeg (mem 205 (Int32.toNatClampNeg ((4 * a1) + a5))))))) 195 (Int32.toNatClampNeg ((mup mem 217 (Int32.toNatClampNeg a5) (a4 - a4 / (mem 195 (Int32.toNatClampNeg (mem 205 (Int32.toNatClampNeg ((4 * a1) + a5))))) * (mem 195 (Int32.toNatClampNeg (mem 205 (Int32.toNatClampNeg ((4 * a1) + a5))))))) 205 (Int32.toNatClampNeg ((4 * a1) + a5))))))), .val (.int a5)]) dMo_take_112 rfl ?_
    refine MW.iinc (c := 1) (ls' := [.val (.ref 193), .val (.int a1), .val (.int a2), .val (.int a3), .val (.int (a4 / ((mup mem 217 (Int32.toNatClampNeg a5) (a4 - a4 / (mem 195 (Int32.toNatClampNeg (mem 205 (Int32.toNatClampNeg ((4 * a1) + a5))))) * (mem 195 (Int32.toNatClampNeg (mem 205 (Int32.toNatClampNeg ((4 * a1) + a5))))))) 195 (Int32.toNatClampNeg ((mup mem 217 (Int32.toNatClampNeg a5) (a4 - a4 / (mem 195 (Int32.toNatClampNeg (mem 205 (Int32.toNatClampNeg ((4 * a1) + a5))))) * (mem 195 (Int32.toNatClampNeg (mem 205 (Int32.toNatClampNeg ((4 * a1) + a5))))))) 205 (Int32.toNatClampNeg ((4 * a1) + a5))))))), .val (.int (a5 + 1))]) dMo_take_114 (by decide) rfl rfl ?_
    refine QW.goto (tgt := 56) dMo_take_117 (by decide) ?_
    exact (k10 z0)
theorem bMo_take_125 {a1 : Int32} {a2 : Int32} {a3 : Int32} {a4 : Int32} {a5 : Int32} {s0 : Int32} (hX : X.length = 13) (k1 : (s0 = 0) → QW (d + 1) mMo_take 45 (lMo_take_45 a1 a2 (a3 + 1) (.val (.int a4)) (.val (.int a5))) [] (hpo X mem sw o e) P) (k2 : (¬ s0 = 0) → QW d mMo_count 0 (qen 3 [.ref 193, .int a1]) [] (hpo X mem sw o e) (qcl d mMo_take 130 133 (lMo_take_133 a1 a2 a3 a4 a5) [] P)) : QW (d + 1) mMo_take 125 (lMo_take_125 a1 a2 a3 a4 a5) [.int s0] (hpo X mem sw o e) P := by
  show QW (d + 1) mMo_take 125 [.val (.ref 193), .val (.int a1), .val (.int a2), .val (.int a3), .val (.int a4), .val (.int a5)] [.int s0] (hpo X mem sw o e) P
  refine QW.if_eq (tgt := 138) dMo_take_125 (by decide) (fun z0 => ?_) (fun z0 => ?_)
  · refine MW.iinc (c := 1) (ls' := [.val (.ref 193), .val (.int a1), .val (.int a2), .val (.int (a3 + 1)), .val (.int a4), .val (.int a5)]) dMo_take_138 (by decide) rfl rfl ?_
    refine QW.goto (tgt := 45) dMo_take_141 (by decide) ?_
    exact (k1 z0)
  · refine QW.aload_n dMo_take_128 rfl rfl ?_
    refine QW.iload_n dMo_take_129 rfl rfl ?_
    exact MW.calV (as := [.int a1]) (rest := []) hX dMo_take_130 eMo_count lMo_218 iMo_count vMo_count rfl rfl rfl rfl rfl rfl (Nat.le_of_ble_eq_true rfl) rfl (k2 z0)
theorem bMo_take_133 {a1 : Int32} {a2 : Int32} {a3 : Int32} {a4 : Int32} {a5 : Int32} {s0 : Int32} (hX : X.length = 13) (k1 : (¬ s0 = 0) → QW d mMo_take 45 (lMo_take_45 a1 a2 (a3 + 1) (.val (.int a4)) (.val (.int a5))) [] (hpo X mem sw o e) P) (k2 : (s0 = 0) → P (.inl (some (.int 0)), (hpo X mem sw o e))) : QW d mMo_take 133 (lMo_take_133 a1 a2 a3 a4 a5) [.int s0] (hpo X mem sw o e) P := by
  show QW d mMo_take 133 [.val (.ref 193), .val (.int a1), .val (.int a2), .val (.int a3), .val (.int a4), .val (.int a5)] [.int s0] (hpo X mem sw o e) P
  refine QW.if_ne (tgt := 138) dMo_take_133 (by decide) (fun z0 => ?_) (fun z0 => ?_)
  · refine MW.iinc (c := 1) (ls' := [.val (.ref 193), .val (.int a1), .val (.int a2), .val (.int (a3 + 1)), .val (.int a4), .val (.int a5)]) dMo_take_138 (by decide) rfl rfl ?_
    refine QW.goto (tgt := 45) dMo_take_141 (by decide) ?_
    exact (k1 z0)
  · refine QW.iconst (v := 0) dMo_take_136 (by decide) ?_
    exact QW.iret dMo_take_137 rfl rfl (k2 z0)
theorem dMo_inBlock_0 : decode mMo_inBlock.2.1 0 = .ok (.iconst 0, 1) := by decide +kernel
theorem dMo_inBlock_1 : decode mMo_inBlock.2.1 1 = .ok (.istore_n 2, 1) := by decide +kernel
theorem dMo_inBlock_2 : decode mMo_inBlock.2.1 2 = .ok (.iconst 0, 1) := by decide +kernel
theorem dMo_inBlock_3 : decode mMo_inBlock.2.1 3 = .ok (.istore_n 3, 1) := by decide +kernel
theorem dMo_inBlock_4 : decode mMo_inBlock.2.1 4 = .ok (.iload_n 3, 1) := by decide +kernel
theorem dMo_inBlock_5 : decode mMo_inBlock.2.1 5 = .ok (.aload_n 0, 1) := by decide +kernel
theorem dMo_inBlock_6 : decode mMo_inBlock.2.1 6 = .ok (.getfield 212, 3) := by decide +kernel
theorem dMo_inBlock_9 : decode mMo_inBlock.2.1 9 = .ok (.if_icmp .ge 85, 3) := by decide +kernel
theorem dMo_inBlock_12 : decode mMo_inBlock.2.1 12 = .ok (.aload_n 0, 1) := by decide +kernel
theorem dMo_inBlock_13 : decode mMo_inBlock.2.1 13 = .ok (.getfield 73, 3) := by decide +kernel
theorem dMo_inBlock_16 : decode mMo_inBlock.2.1 16 = .ok (.iconst 3, 1) := by decide +kernel
theorem dMo_inBlock_17 : decode mMo_inBlock.2.1 17 = .ok (.iload_n 1, 1) := by decide +kernel
theorem dMo_inBlock_18 : decode mMo_inBlock.2.1 18 = .ok (.imul, 1) := by decide +kernel
theorem dMo_inBlock_19 : decode mMo_inBlock.2.1 19 = .ok (.iaload, 1) := by decide +kernel
theorem dMo_inBlock_20 : decode mMo_inBlock.2.1 20 = .ok (.aload_n 0, 1) := by decide +kernel
theorem dMo_inBlock_21 : decode mMo_inBlock.2.1 21 = .ok (.getfield 67, 3) := by decide +kernel
theorem dMo_inBlock_24 : decode mMo_inBlock.2.1 24 = .ok (.iconst 3, 1) := by decide +kernel
theorem dMo_inBlock_25 : decode mMo_inBlock.2.1 25 = .ok (.iload_n 3, 1) := by decide +kernel
theorem dMo_inBlock_26 : decode mMo_inBlock.2.1 26 = .ok (.imul, 1) := by decide +kernel
theorem dMo_inBlock_27 : decode mMo_inBlock.2.1 27 = .ok (.iaload, 1) := by decide +kernel
theorem dMo_inBlock_28 : decode mMo_inBlock.2.1 28 = .ok (.if_icmp .ne 58, 3) := by decide +kernel
theorem dMo_inBlock_31 : decode mMo_inBlock.2.1 31 = .ok (.aload_n 0, 1) := by decide +kernel
theorem dMo_inBlock_32 : decode mMo_inBlock.2.1 32 = .ok (.getfield 73, 3) := by decide +kernel
theorem dMo_inBlock_35 : decode mMo_inBlock.2.1 35 = .ok (.iconst 3, 1) := by decide +kernel
theorem dMo_inBlock_36 : decode mMo_inBlock.2.1 36 = .ok (.iload_n 1, 1) := by decide +kernel
theorem dMo_inBlock_37 : decode mMo_inBlock.2.1 37 = .ok (.imul, 1) := by decide +kernel
theorem dMo_inBlock_38 : decode mMo_inBlock.2.1 38 = .ok (.iconst 1, 1) := by decide +kernel
theorem dMo_inBlock_39 : decode mMo_inBlock.2.1 39 = .ok (.iadd, 1) := by decide +kernel
theorem dMo_inBlock_40 : decode mMo_inBlock.2.1 40 = .ok (.iaload, 1) := by decide +kernel
theorem dMo_inBlock_41 : decode mMo_inBlock.2.1 41 = .ok (.aload_n 0, 1) := by decide +kernel
theorem dMo_inBlock_42 : decode mMo_inBlock.2.1 42 = .ok (.getfield 67, 3) := by decide +kernel
theorem dMo_inBlock_45 : decode mMo_inBlock.2.1 45 = .ok (.iconst 3, 1) := by decide +kernel
theorem dMo_inBlock_46 : decode mMo_inBlock.2.1 46 = .ok (.iload_n 3, 1) := by decide +kernel
theorem dMo_inBlock_47 : decode mMo_inBlock.2.1 47 = .ok (.imul, 1) := by decide +kernel
theorem dMo_inBlock_48 : decode mMo_inBlock.2.1 48 = .ok (.iconst 1, 1) := by decide +kernel
theorem dMo_inBlock_49 : decode mMo_inBlock.2.1 49 = .ok (.iadd, 1) := by decide +kernel
theorem dMo_inBlock_50 : decode mMo_inBlock.2.1 50 = .ok (.iaload, 1) := by decide +kernel
theorem dMo_inBlock_51 : decode mMo_inBlock.2.1 51 = .ok (.if_icmp .ne 35, 3) := by decide +kernel
theorem dMo_inBlock_54 : decode mMo_inBlock.2.1 54 = .ok (.aload_n 0, 1) := by decide +kernel
theorem dMo_inBlock_55 : decode mMo_inBlock.2.1 55 = .ok (.getfield 73, 3) := by decide +kernel
theorem dMo_inBlock_58 : decode mMo_inBlock.2.1 58 = .ok (.iconst 3, 1) := by decide +kernel
theorem dMo_inBlock_59 : decode mMo_inBlock.2.1 59 = .ok (.iload_n 1, 1) := by decide +kernel
theorem dMo_inBlock_60 : decode mMo_inBlock.2.1 60 = .ok (.imul, 1) := by decide +kernel
theorem dMo_inBlock_61 : decode mMo_inBlock.2.1 61 = .ok (.iconst 2, 1) := by decide +kernel
theorem dMo_inBlock_62 : decode mMo_inBlock.2.1 62 = .ok (.iadd, 1) := by decide +kernel
theorem dMo_inBlock_63 : decode mMo_inBlock.2.1 63 = .ok (.iaload, 1) := by decide +kernel
theorem dMo_inBlock_64 : decode mMo_inBlock.2.1 64 = .ok (.aload_n 0, 1) := by decide +kernel
theorem dMo_inBlock_65 : decode mMo_inBlock.2.1 65 = .ok (.getfield 67, 3) := by decide +kernel
theorem dMo_inBlock_68 : decode mMo_inBlock.2.1 68 = .ok (.iconst 3, 1) := by decide +kernel
theorem dMo_inBlock_69 : decode mMo_inBlock.2.1 69 = .ok (.iload_n 3, 1) := by decide +kernel
theorem dMo_inBlock_70 : decode mMo_inBlock.2.1 70 = .ok (.imul, 1) := by decide +kernel
theorem dMo_inBlock_71 : decode mMo_inBlock.2.1 71 = .ok (.iconst 2, 1) := by decide +kernel
theorem dMo_inBlock_72 : decode mMo_inBlock.2.1 72 = .ok (.iadd, 1) := by decide +kernel
theorem dMo_inBlock_73 : decode mMo_inBlock.2.1 73 = .ok (.iaload, 1) := by decide +kernel
theorem dMo_inBlock_74 : decode mMo_inBlock.2.1 74 = .ok (.if_icmp .ne 12, 3) := by decide +kernel
theorem dMo_inBlock_77 : decode mMo_inBlock.2.1 77 = .ok (.aload_n 0, 1) := by decide +kernel
theorem dMo_inBlock_78 : decode mMo_inBlock.2.1 78 = .ok (.getfield 70, 3) := by decide +kernel
theorem dMo_inBlock_81 : decode mMo_inBlock.2.1 81 = .ok (.iload_n 3, 1) := by decide +kernel
theorem dMo_inBlock_82 : decode mMo_inBlock.2.1 82 = .ok (.iaload, 1) := by decide +kernel
theorem dMo_inBlock_83 : decode mMo_inBlock.2.1 83 = .ok (.goto 4, 3) := by decide +kernel
theorem dMo_inBlock_86 : decode mMo_inBlock.2.1 86 = .ok (.iload_n 2, 1) := by decide +kernel
theorem dMo_inBlock_87 : decode mMo_inBlock.2.1 87 = .ok (.istore_n 2, 1) := by decide +kernel
theorem dMo_inBlock_88 : decode mMo_inBlock.2.1 88 = .ok (.iinc 3 1, 3) := by decide +kernel
theorem dMo_inBlock_91 : decode mMo_inBlock.2.1 91 = .ok (.goto (-87), 3) := by decide +kernel
theorem dMo_inBlock_94 : decode mMo_inBlock.2.1 94 = .ok (.iload_n 2, 1) := by decide +kernel
theorem dMo_inBlock_95 : decode mMo_inBlock.2.1 95 = .ok (.ireturn, 1) := by decide +kernel
def lMo_inBlock_4 (a1 : Int32) (a2 : Int32) (a3 : Int32) : List Slot := [.val (.ref 193), .val (.int a1), .val (.int a2), .val (.int a3)]
def lMo_inBlock_86 (a1 : Int32) (a2 : Int32) (a3 : Int32) : List Slot := [.val (.ref 193), .val (.int a1), .val (.int a2), .val (.int a3)]
def lMo_inBlock_87 (a1 : Int32) (a2 : Int32) (a3 : Int32) : List Slot := [.val (.ref 193), .val (.int a1), .val (.int a2), .val (.int a3)]
theorem bMo_inBlock_0 {a1 : Int32} (hX : X.length = 13) (k1 : QW d mMo_inBlock 4 (lMo_inBlock_4 a1 0 0) [] (hpo X mem sw o e) P) : QW d mMo_inBlock 0 (qen 4 [.ref 193, .int a1]) [] (hpo X mem sw o e) P := by
  show QW d mMo_inBlock 0 [.val (.ref 193), .val (.int a1), .unset, .unset] [] (hpo X mem sw o e) P
  refine QW.iconst (v := 0) dMo_inBlock_0 (by decide) ?_
  refine QW.istore_n (ls' := [.val (.ref 193), .val (.int a1), .val (.int 0), .unset]) dMo_inBlock_1 rfl rfl ?_
  refine QW.iconst (v := 0) dMo_inBlock_2 (by decide) ?_
  refine QW.istore_n (ls' := [.val (.ref 193), .val (.int a1), .val (.int 0), .val (.int 0)]) dMo_inBlock_3 rfl rfl ?_
  exact k1
theorem bMo_inBlock_4 {a1 : Int32} {a2 : Int32} {a3 : Int32} (hX : X.length = 13) (k1 : ((mem 193 26) ≤ a3) → P (.inl (some (.int a2)), (hpo X mem sw o e))) (h2 : (¬ (mem 193 26) ≤ a3) → inx (3 * a1) 192) (h3 : (¬ (mem 193 26) ≤ a3) → inx (3 * a3) 192) (k4 : (¬ (mem 193 26) ≤ a3) → (¬ (mem 213 (Int32.toNatClampNeg (3 * a1))) = (mem 211 (Int32.toNatClampNeg (3 * a3)))) → QW d mMo_inBlock 86 (lMo_inBlock_86 a1 a2 a3) [] (hpo X mem sw o e) P) (h5 : (¬ (mem 193 26) ≤ a3) → ((mem 213 (Int32.toNatClampNeg (3 * a1))) = (mem 211 (Int32.toNatClampNeg (3 * a3)))) → inx ((3 * a1) + 1) 192) (h6 : (¬ (mem 193 26) ≤ a3) → ((mem 213 (Int32.toNatClampNeg (3 * a1))) = (mem 211 (Int32.toNatClampNeg (3 * a3)))) → inx ((3 * a3) + 1) 192) (k7 : (¬ (mem 193 26) ≤ a3) → ((mem 213 (Int32.toNatClampNeg (3 * a1))) = (mem 211 (Int32.toNatClampNeg (3 * a3)))) → (¬ (mem 213 (Int32.toNatClampNeg ((3 * a1) + 1))) = (mem 211 (Int32.toNatClampNeg ((3 * a3) + 1)))) → QW d mMo_inBlock 86 (lMo_inBlock_86 a1 a2 a3) [] (hpo X mem sw o e) P) (h8 : (¬ (mem 193 26) ≤ a3) → ((mem 213 (Int32.toNatClampNeg (3 * a1))) = (mem 211 (Int32.toNatClampNeg (3 * a3)))) → ((mem 213 (Int32.toNatClampNeg ((3 * a1) + 1))) = (mem 211 (Int32.toNatClampNeg ((3 * a3) + 1)))) → inx ((3 * a1) + 2) 192) (h9 : (¬ (mem 193 26) ≤ a3) → ((mem 213 (Int32.toNatClampNeg (3 * a1))) = (mem 211 (Int32.toNatClampNeg (3 * a3)))) → ((mem 213 (Int32.toNatClampNeg ((3 * a1) + 1))) = (mem 211 (Int32.toNatClampNeg ((3 * a3) + 1)))) → inx ((3 * a3) + 2) 192) (k10 : (¬ (mem 193 26) ≤ a3) → ((mem 213 (Int32.toNatClampNeg (3 * a1))) = (mem 211 (Int32.toNatClampNeg (3 * a3)))) → ((mem 213 (Int32.toNatClampNeg ((3 * a1) + 1))) = (mem 211 (Int32.toNatClampNeg ((3 * a3) + 1)))) → (¬ (mem 213 (Int32.toNatClampNeg ((3 * a1) + 2))) = (mem 211 (Int32.toNatClampNeg ((3 * a3) + 2)))) → QW d mMo_inBlock 86 (lMo_inBlock_86 a1 a2 a3) [] (hpo X mem sw o e) P) (h11 : (¬ (mem 193 26) ≤ a3) → ((mem 213 (Int32.toNatClampNeg (3 * a1))) = (mem 211 (Int32.toNatClampNeg (3 * a3)))) → ((mem 213 (Int32.toNatClampNeg ((3 * a1) + 1))) = (mem 211 (Int32.toNatClampNeg ((3 * a3) + 1)))) → ((mem 213 (Int32.toNatClampNeg ((3 * a1) + 2))) = (mem 211 (Int32.toNatClampNeg ((3 * a3) + 2)))) → inx a3 64) (k12 : (¬ (mem 193 26) ≤ a3) → ((mem 213 (Int32.toNatClampNeg (3 * a1))) = (mem 211 (Int32.toNatClampNeg (3 * a3)))) → ((mem 213 (Int32.toNatClampNeg ((3 * a1) + 1))) = (mem 211 (Int32.toNatClampNeg ((3 * a3) + 1)))) → ((mem 213 (Int32.toNatClampNeg ((3 * a1) + 2))) = (mem 211 (Int32.toNatClampNeg ((3 * a3) + 2)))) → QW d mMo_inBlock 87 (lMo_inBlock_87 a1 a2 a3) [.int (mem 212 (Int32.toNatClampNeg a3))] (hpo X mem sw o e) P) : QW d mMo_inBlock 4 (lMo_inBlock_4 a1 a2 a3) [] (hpo X mem sw o e) P := by
  show QW d mMo_inBlock 4 [.val (.ref 193), .val (.int a1), .val (.int a2), .val (.int a3)] [] (hpo X mem sw o e) P
  refine QW.iload_n dMo_inBlock_4 rfl rfl ?_
  refine QW.aload_n dMo_inBlock_5 rfl rfl ?_
  refine MW.geti hX dMo_inBlock_6 fMo_212 rfl rfl ?_
  refine QW.icmp_ge (tgt := 94) dMo_inBlock_9 (by decide) (fun z0 => ?_) (fun z0 => ?_)
  · refine QW.iload_n dMo_inBlock_94 rfl rfl ?_
    exact QW.iret dMo_inBlock_95 rfl rfl (k1 z0)
  · refine QW.aload_n dMo_inBlock_12 rfl rfl ?_
    refine MW.getr (r' := 213) hX dMo_inBlock_13 fMo_73 rfl rfl (by cases sw <;> rfl) ?_
    refine QW.iconst (v := 3) dMo_inBlock_16 (by decide) ?_
    refine QW.iload_n dMo_inBlock_17 rfl rfl ?_
    refine QW.imul dMo_inBlock_18 ?_
    refine MW.iald hX dMo_inBlock_19 rfl (h2 z0).1 (rep_get (h2 z0).2) ?_
    refine QW.aload_n dMo_inBlock_20 rfl rfl ?_
    refine MW.getr (r' := 211) hX dMo_inBlock_21 fMo_67 rfl rfl (by cases sw <;> rfl) ?_
    refine QW.iconst (v := 3) dMo_inBlock_24 (by decide) ?_
    refine QW.iload_n dMo_inBlock_25 rfl rfl ?_
    refine QW.imul dMo_inBlock_26 ?_
    refine MW.iald hX dMo_inBlock_27 rfl (h3 z0).1 (rep_get (h3 z0).2) ?_
    refine QW.icmp_ne (tgt := 86) dMo_inBlock_28 (by decide) (fun z1 => ?_) (fun z1 => ?_)
    · exact (k4 z0 z1)
    · refine QW.aload_n dMo_inBlock_31 rfl rfl ?_
      refine MW.getr (r' := 213) hX dMo_inBlock_32 fMo_73 rfl rfl (by cases sw <;> rfl) ?_
      refine QW.iconst (v := 3) dMo_inBlock_35 (by decide) ?_
      refine QW.iload_n dMo_inBlock_36 rfl rfl ?_
      refine QW.imul dMo_inBlock_37 ?_
      refine QW.iconst (v := 1) dMo_inBlock_38 (by decide) ?_
      refine QW.iadd dMo_inBlock_39 ?_
      refine MW.iald hX dMo_inBlock_40 rfl (h5 z0 z1).1 (rep_get (h5 z0 z1).2) ?_
      refine QW.aload_n dMo_inBlock_41 rfl rfl ?_
      refine MW.getr (r' := 211) hX dMo_inBlock_42 fMo_67 rfl rfl (by cases sw <;> rfl) ?_
      refine QW.iconst (v := 3) dMo_inBlock_45 (by decide) ?_
      refine QW.iload_n dMo_inBlock_46 rfl rfl ?_
      refine QW.imul dMo_inBlock_47 ?_
      refine QW.iconst (v := 1) dMo_inBlock_48 (by decide) ?_
      refine QW.iadd dMo_inBlock_49 ?_
      refine MW.iald hX dMo_inBlock_50 rfl (h6 z0 z1).1 (rep_get (h6 z0 z1).2) ?_
      refine QW.icmp_ne (tgt := 86) dMo_inBlock_51 (by decide) (fun z2 => ?_) (fun z2 => ?_)
      · exact (k7 z0 z1 z2)
      · refine QW.aload_n dMo_inBlock_54 rfl rfl ?_
        refine MW.getr (r' := 213) hX dMo_inBlock_55 fMo_73 rfl rfl (by cases sw <;> rfl) ?_
        refine QW.iconst (v := 3) dMo_inBlock_58 (by decide) ?_
        refine QW.iload_n dMo_inBlock_59 rfl rfl ?_
        refine QW.imul dMo_inBlock_60 ?_
        refine QW.iconst (v := 2) dMo_inBlock_61 (by decide) ?_
        refine QW.iadd dMo_inBlock_62 ?_
        refine MW.iald hX dMo_inBlock_63 rfl (h8 z0 z1 z2).1 (rep_get (h8 z0 z1 z2).2) ?_
        refine QW.aload_n dMo_inBlock_64 rfl rfl ?_
        refine MW.getr (r' := 211) hX dMo_inBlock_65 fMo_67 rfl rfl (by cases sw <;> rfl) ?_
        refine QW.iconst (v := 3) dMo_inBlock_68 (by decide) ?_
        refine QW.iload_n dMo_inBlock_69 rfl rfl ?_
        refine QW.imul dMo_inBlock_70 ?_
        refine QW.iconst (v := 2) dMo_inBlock_71 (by decide) ?_
        refine QW.iadd dMo_inBlock_72 ?_
        refine MW.iald hX dMo_inBlock_73 rfl (h9 z0 z1 z2).1 (rep_get (h9 z0 z1 z2).2) ?_
        refine QW.icmp_ne (tgt := 86) dMo_inBlock_74 (by decide) (fun z3 => ?_) (fun z3 => ?_)
        · exact (k10 z0 z1 z2 z3)
        · refine QW.aload_n dMo_inBlock_77 rfl rfl ?_
          refine MW.getr (r' := 212) hX dMo_inBlock_78 fMo_70 rfl rfl (by cases sw <;> rfl) ?_
          refine QW.iload_n dMo_inBlock_81 rfl rfl ?_
          refine MW.iald hX dMo_inBlock_82 rfl (h11 z0 z1 z2 z3).1 (rep_get (h11 z0 z1 z2 z3).2) ?_
          refine QW.goto (tgt := 87) dMo_inBlock_83 (by decide) ?_
          exact (k12 z0 z1 z2 z3)
theorem bMo_inBlock_86 {a1 : Int32} {a2 : Int32} {a3 : Int32} (hX : X.length = 13) (k1 : QW d mMo_inBlock 87 (lMo_inBlock_87 a1 a2 a3) [.int a2] (hpo X mem sw o e) P) : QW d mMo_inBlock 86 (lMo_inBlock_86 a1 a2 a3) [] (hpo X mem sw o e) P := by
  show QW d mMo_inBlock 86 [.val (.ref 193), .val (.int a1), .val (.int a2), .val (.int a3)] [] (hpo X mem sw o e) P
  refine QW.iload_n dMo_inBlock_86 rfl rfl ?_
  exact k1
theorem bMo_inBlock_87 {a1 : Int32} {a2 : Int32} {a3 : Int32} {s0 : Int32} (hX : X.length = 13) (k1 : QW d mMo_inBlock 4 (lMo_inBlock_4 a1 s0 (a3 + 1)) [] (hpo X mem sw o e) P) : QW d mMo_inBlock 87 (lMo_inBlock_87 a1 a2 a3) [.int s0] (hpo X mem sw o e) P := by
  show QW d mMo_inBlock 87 [.val (.ref 193), .val (.int a1), .val (.int a2), .val (.int a3)] [.int s0] (hpo X mem sw o e) P
  refine QW.istore_n (ls' := [.val (.ref 193), .val (.int a1), .val (.int s0), .val (.int a3)]) dMo_inBlock_87 rfl rfl ?_
  refine MW.iinc (c := 1) (ls' := [.val (.ref 193), .val (.int a1), .val (.int s0), .val (.int (a3 + 1))]) dMo_inBlock_88 (by decide) rfl rfl ?_
  refine QW.goto (tgt := 4) dMo_inBlock_91 (by decide) ?_
  exact k1
theorem dMo_addNew_0 : decode mMo_addNew.2.1 0 = .ok (.aload_n 0, 1) := by decide +kernel
theorem dMo_addNew_1 : decode mMo_addNew.2.1 1 = .ok (.getfield 221, 3) := by decide +kernel
theorem dMo_addNew_4 : decode mMo_addNew.2.1 4 = .ok (.istore_n 1, 1) := by decide +kernel
theorem dMo_addNew_5 : decode mMo_addNew.2.1 5 = .ok (.iconst 0, 1) := by decide +kernel
theorem dMo_addNew_6 : decode mMo_addNew.2.1 6 = .ok (.istore_n 2, 1) := by decide +kernel
theorem dMo_addNew_7 : decode mMo_addNew.2.1 7 = .ok (.iload_n 2, 1) := by decide +kernel
theorem dMo_addNew_8 : decode mMo_addNew.2.1 8 = .ok (.aload_n 0, 1) := by decide +kernel
theorem dMo_addNew_9 : decode mMo_addNew.2.1 9 = .ok (.getfield 212, 3) := by decide +kernel
theorem dMo_addNew_12 : decode mMo_addNew.2.1 12 = .ok (.if_icmp .ge 188, 3) := by decide +kernel
theorem dMo_addNew_15 : decode mMo_addNew.2.1 15 = .ok (.iconst 0, 1) := by decide +kernel
theorem dMo_addNew_16 : decode mMo_addNew.2.1 16 = .ok (.istore_n 3, 1) := by decide +kernel
theorem dMo_addNew_17 : decode mMo_addNew.2.1 17 = .ok (.iconst 0, 1) := by decide +kernel
theorem dMo_addNew_18 : decode mMo_addNew.2.1 18 = .ok (.istore 4, 2) := by decide +kernel
theorem dMo_addNew_20 : decode mMo_addNew.2.1 20 = .ok (.iload 4, 2) := by decide +kernel
theorem dMo_addNew_22 : decode mMo_addNew.2.1 22 = .ok (.iload_n 1, 1) := by decide +kernel
theorem dMo_addNew_23 : decode mMo_addNew.2.1 23 = .ok (.if_icmp .ge 87, 3) := by decide +kernel
theorem dMo_addNew_26 : decode mMo_addNew.2.1 26 = .ok (.iload_n 3, 1) := by decide +kernel
theorem dMo_addNew_27 : decode mMo_addNew.2.1 27 = .ok (.ifCond .ne 71, 3) := by decide +kernel
theorem dMo_addNew_30 : decode mMo_addNew.2.1 30 = .ok (.aload_n 0, 1) := by decide +kernel
theorem dMo_addNew_31 : decode mMo_addNew.2.1 31 = .ok (.getfield 73, 3) := by decide +kernel
theorem dMo_addNew_34 : decode mMo_addNew.2.1 34 = .ok (.iconst 3, 1) := by decide +kernel
theorem dMo_addNew_35 : decode mMo_addNew.2.1 35 = .ok (.iload 4, 2) := by decide +kernel
theorem dMo_addNew_37 : decode mMo_addNew.2.1 37 = .ok (.imul, 1) := by decide +kernel
theorem dMo_addNew_38 : decode mMo_addNew.2.1 38 = .ok (.iaload, 1) := by decide +kernel
theorem dMo_addNew_39 : decode mMo_addNew.2.1 39 = .ok (.aload_n 0, 1) := by decide +kernel
theorem dMo_addNew_40 : decode mMo_addNew.2.1 40 = .ok (.getfield 67, 3) := by decide +kernel
theorem dMo_addNew_43 : decode mMo_addNew.2.1 43 = .ok (.iconst 3, 1) := by decide +kernel
theorem dMo_addNew_44 : decode mMo_addNew.2.1 44 = .ok (.iload_n 2, 1) := by decide +kernel
theorem dMo_addNew_45 : decode mMo_addNew.2.1 45 = .ok (.imul, 1) := by decide +kernel
theorem dMo_addNew_46 : decode mMo_addNew.2.1 46 = .ok (.iaload, 1) := by decide +kernel
theorem dMo_addNew_47 : decode mMo_addNew.2.1 47 = .ok (.if_icmp .ne 55, 3) := by decide +kernel
theorem dMo_addNew_50 : decode mMo_addNew.2.1 50 = .ok (.aload_n 0, 1) := by decide +kernel
theorem dMo_addNew_51 : decode mMo_addNew.2.1 51 = .ok (.getfield 73, 3) := by decide +kernel
theorem dMo_addNew_54 : decode mMo_addNew.2.1 54 = .ok (.iconst 3, 1) := by decide +kernel
theorem dMo_addNew_55 : decode mMo_addNew.2.1 55 = .ok (.iload 4, 2) := by decide +kernel
theorem dMo_addNew_57 : decode mMo_addNew.2.1 57 = .ok (.imul, 1) := by decide +kernel
theorem dMo_addNew_58 : decode mMo_addNew.2.1 58 = .ok (.iconst 1, 1) := by decide +kernel
theorem dMo_addNew_59 : decode mMo_addNew.2.1 59 = .ok (.iadd, 1) := by decide +kernel
theorem dMo_addNew_60 : decode mMo_addNew.2.1 60 = .ok (.iaload, 1) := by decide +kernel
theorem dMo_addNew_61 : decode mMo_addNew.2.1 61 = .ok (.aload_n 0, 1) := by decide +kernel
theorem dMo_addNew_62 : decode mMo_addNew.2.1 62 = .ok (.getfield 67, 3) := by decide +kernel
theorem dMo_addNew_65 : decode mMo_addNew.2.1 65 = .ok (.iconst 3, 1) := by decide +kernel
theorem dMo_addNew_66 : decode mMo_addNew.2.1 66 = .ok (.iload_n 2, 1) := by decide +kernel
theorem dMo_addNew_67 : decode mMo_addNew.2.1 67 = .ok (.imul, 1) := by decide +kernel
theorem dMo_addNew_68 : decode mMo_addNew.2.1 68 = .ok (.iconst 1, 1) := by decide +kernel
theorem dMo_addNew_69 : decode mMo_addNew.2.1 69 = .ok (.iadd, 1) := by decide +kernel
theorem dMo_addNew_70 : decode mMo_addNew.2.1 70 = .ok (.iaload, 1) := by decide +kernel
theorem dMo_addNew_71 : decode mMo_addNew.2.1 71 = .ok (.if_icmp .ne 31, 3) := by decide +kernel
theorem dMo_addNew_74 : decode mMo_addNew.2.1 74 = .ok (.aload_n 0, 1) := by decide +kernel
theorem dMo_addNew_75 : decode mMo_addNew.2.1 75 = .ok (.getfield 73, 3) := by decide +kernel
theorem dMo_addNew_78 : decode mMo_addNew.2.1 78 = .ok (.iconst 3, 1) := by decide +kernel
theorem dMo_addNew_79 : decode mMo_addNew.2.1 79 = .ok (.iload 4, 2) := by decide +kernel
theorem dMo_addNew_81 : decode mMo_addNew.2.1 81 = .ok (.imul, 1) := by decide +kernel
theorem dMo_addNew_82 : decode mMo_addNew.2.1 82 = .ok (.iconst 2, 1) := by decide +kernel
theorem dMo_addNew_83 : decode mMo_addNew.2.1 83 = .ok (.iadd, 1) := by decide +kernel
theorem dMo_addNew_84 : decode mMo_addNew.2.1 84 = .ok (.iaload, 1) := by decide +kernel
theorem dMo_addNew_85 : decode mMo_addNew.2.1 85 = .ok (.aload_n 0, 1) := by decide +kernel
theorem dMo_addNew_86 : decode mMo_addNew.2.1 86 = .ok (.getfield 67, 3) := by decide +kernel
theorem dMo_addNew_89 : decode mMo_addNew.2.1 89 = .ok (.iconst 3, 1) := by decide +kernel
theorem dMo_addNew_90 : decode mMo_addNew.2.1 90 = .ok (.iload_n 2, 1) := by decide +kernel
theorem dMo_addNew_91 : decode mMo_addNew.2.1 91 = .ok (.imul, 1) := by decide +kernel
theorem dMo_addNew_92 : decode mMo_addNew.2.1 92 = .ok (.iconst 2, 1) := by decide +kernel
theorem dMo_addNew_93 : decode mMo_addNew.2.1 93 = .ok (.iadd, 1) := by decide +kernel
theorem dMo_addNew_94 : decode mMo_addNew.2.1 94 = .ok (.iaload, 1) := by decide +kernel
theorem dMo_addNew_95 : decode mMo_addNew.2.1 95 = .ok (.if_icmp .ne 7, 3) := by decide +kernel
theorem dMo_addNew_98 : decode mMo_addNew.2.1 98 = .ok (.iconst 1, 1) := by decide +kernel
theorem dMo_addNew_99 : decode mMo_addNew.2.1 99 = .ok (.goto 4, 3) := by decide +kernel
theorem dMo_addNew_102 : decode mMo_addNew.2.1 102 = .ok (.iconst 0, 1) := by decide +kernel
theorem dMo_addNew_103 : decode mMo_addNew.2.1 103 = .ok (.istore_n 3, 1) := by decide +kernel
theorem dMo_addNew_104 : decode mMo_addNew.2.1 104 = .ok (.iinc 4 1, 3) := by decide +kernel
theorem dMo_addNew_107 : decode mMo_addNew.2.1 107 = .ok (.goto (-87), 3) := by decide +kernel
theorem dMo_addNew_110 : decode mMo_addNew.2.1 110 = .ok (.iload_n 3, 1) := by decide +kernel
theorem dMo_addNew_111 : decode mMo_addNew.2.1 111 = .ok (.ifCond .ne 14, 3) := by decide +kernel
theorem dMo_addNew_114 : decode mMo_addNew.2.1 114 = .ok (.aload_n 0, 1) := by decide +kernel
theorem dMo_addNew_115 : decode mMo_addNew.2.1 115 = .ok (.getfield 221, 3) := by decide +kernel
theorem dMo_addNew_118 : decode mMo_addNew.2.1 118 = .ok (.bipush 64, 2) := by decide +kernel
theorem dMo_addNew_120 : decode mMo_addNew.2.1 120 = .ok (.if_icmp .ne 5, 3) := by decide +kernel
theorem dMo_addNew_123 : decode mMo_addNew.2.1 123 = .ok (.iconst 0, 1) := by decide +kernel
theorem dMo_addNew_124 : decode mMo_addNew.2.1 124 = .ok (.ireturn, 1) := by decide +kernel
theorem dMo_addNew_125 : decode mMo_addNew.2.1 125 = .ok (.iload_n 3, 1) := by decide +kernel
theorem dMo_addNew_126 : decode mMo_addNew.2.1 126 = .ok (.ifCond .ne 68, 3) := by decide +kernel
theorem dMo_addNew_129 : decode mMo_addNew.2.1 129 = .ok (.iconst 0, 1) := by decide +kernel
theorem dMo_addNew_130 : decode mMo_addNew.2.1 130 = .ok (.istore 4, 2) := by decide +kernel
theorem dMo_addNew_132 : decode mMo_addNew.2.1 132 = .ok (.iload 4, 2) := by decide +kernel
theorem dMo_addNew_134 : decode mMo_addNew.2.1 134 = .ok (.iconst 3, 1) := by decide +kernel
theorem dMo_addNew_135 : decode mMo_addNew.2.1 135 = .ok (.if_icmp .ge 34, 3) := by decide +kernel
theorem dMo_addNew_138 : decode mMo_addNew.2.1 138 = .ok (.aload_n 0, 1) := by decide +kernel
theorem dMo_addNew_139 : decode mMo_addNew.2.1 139 = .ok (.getfield 73, 3) := by decide +kernel
theorem dMo_addNew_142 : decode mMo_addNew.2.1 142 = .ok (.iconst 3, 1) := by decide +kernel
theorem dMo_addNew_143 : decode mMo_addNew.2.1 143 = .ok (.aload_n 0, 1) := by decide +kernel
theorem dMo_addNew_144 : decode mMo_addNew.2.1 144 = .ok (.getfield 221, 3) := by decide +kernel
theorem dMo_addNew_147 : decode mMo_addNew.2.1 147 = .ok (.imul, 1) := by decide +kernel
theorem dMo_addNew_148 : decode mMo_addNew.2.1 148 = .ok (.iload 4, 2) := by decide +kernel
theorem dMo_addNew_150 : decode mMo_addNew.2.1 150 = .ok (.iadd, 1) := by decide +kernel
theorem dMo_addNew_151 : decode mMo_addNew.2.1 151 = .ok (.aload_n 0, 1) := by decide +kernel
theorem dMo_addNew_152 : decode mMo_addNew.2.1 152 = .ok (.getfield 67, 3) := by decide +kernel
theorem dMo_addNew_155 : decode mMo_addNew.2.1 155 = .ok (.iconst 3, 1) := by decide +kernel
theorem dMo_addNew_156 : decode mMo_addNew.2.1 156 = .ok (.iload_n 2, 1) := by decide +kernel
theorem dMo_addNew_157 : decode mMo_addNew.2.1 157 = .ok (.imul, 1) := by decide +kernel
theorem dMo_addNew_158 : decode mMo_addNew.2.1 158 = .ok (.iload 4, 2) := by decide +kernel
theorem dMo_addNew_160 : decode mMo_addNew.2.1 160 = .ok (.iadd, 1) := by decide +kernel
theorem dMo_addNew_161 : decode mMo_addNew.2.1 161 = .ok (.iaload, 1) := by decide +kernel
theorem dMo_addNew_162 : decode mMo_addNew.2.1 162 = .ok (.iastore, 1) := by decide +kernel
theorem dMo_addNew_163 : decode mMo_addNew.2.1 163 = .ok (.iinc 4 1, 3) := by decide +kernel
theorem dMo_addNew_166 : decode mMo_addNew.2.1 166 = .ok (.goto (-34), 3) := by decide +kernel
theorem dMo_addNew_169 : decode mMo_addNew.2.1 169 = .ok (.aload_n 0, 1) := by decide +kernel
theorem dMo_addNew_170 : decode mMo_addNew.2.1 170 = .ok (.getfield 76, 3) := by decide +kernel
theorem dMo_addNew_173 : decode mMo_addNew.2.1 173 = .ok (.aload_n 0, 1) := by decide +kernel
theorem dMo_addNew_174 : decode mMo_addNew.2.1 174 = .ok (.getfield 221, 3) := by decide +kernel
theorem dMo_addNew_177 : decode mMo_addNew.2.1 177 = .ok (.aload_n 0, 1) := by decide +kernel
theorem dMo_addNew_178 : decode mMo_addNew.2.1 178 = .ok (.getfield 70, 3) := by decide +kernel
theorem dMo_addNew_181 : decode mMo_addNew.2.1 181 = .ok (.iload_n 2, 1) := by decide +kernel
theorem dMo_addNew_182 : decode mMo_addNew.2.1 182 = .ok (.iaload, 1) := by decide +kernel
theorem dMo_addNew_183 : decode mMo_addNew.2.1 183 = .ok (.iastore, 1) := by decide +kernel
theorem dMo_addNew_184 : decode mMo_addNew.2.1 184 = .ok (.aload_n 0, 1) := by decide +kernel
theorem dMo_addNew_185 : decode mMo_addNew.2.1 185 = .ok (.dup, 1) := by decide +kernel
theorem dMo_addNew_186 : decode mMo_addNew.2.1 186 = .ok (.getfield 221, 3) := by decide +kernel
theorem dMo_addNew_189 : decode mMo_addNew.2.1 189 = .ok (.iconst 1, 1) := by decide +kernel
theorem dMo_addNew_190 : decode mMo_addNew.2.1 190 = .ok (.iadd, 1) := by decide +kernel
theorem dMo_addNew_191 : decode mMo_addNew.2.1 191 = .ok (.putfield 221, 3) := by decide +kernel
theorem dMo_addNew_194 : decode mMo_addNew.2.1 194 = .ok (.iinc 2 1, 3) := by decide +kernel
theorem dMo_addNew_197 : decode mMo_addNew.2.1 197 = .ok (.goto (-190), 3) := by decide +kernel
theorem dMo_addNew_200 : decode mMo_addNew.2.1 200 = .ok (.iconst 1, 1) := by decide +kernel
theorem dMo_addNew_201 : decode mMo_addNew.2.1 201 = .ok (.ireturn, 1) := by decide +kernel
def lMo_addNew_7 (a1 : Int32) (a2 : Int32) (w3 : Slot) (w4 : Slot) : List Slot := [.val (.ref 193), .val (.int a1), .val (.int a2), w3, w4]
def lMo_addNew_20 (a1 : Int32) (a2 : Int32) (a3 : Int32) (a4 : Int32) : List Slot := [.val (.ref 193), .val (.int a1), .val (.int a2), .val (.int a3), .val (.int a4)]
def lMo_addNew_98 (a1 : Int32) (a2 : Int32) (a3 : Int32) (a4 : Int32) : List Slot := [.val (.ref 193), .val (.int a1), .val (.int a2), .val (.int a3), .val (.int a4)]
def lMo_addNew_102 (a1 : Int32) (a2 : Int32) (a3 : Int32) (a4 : Int32) : List Slot := [.val (.ref 193), .val (.int a1), .val (.int a2), .val (.int a3), .val (.int a4)]
def lMo_addNew_103 (a1 : Int32) (a2 : Int32) (a3 : Int32) (a4 : Int32) : List Slot := [.val (.ref 193), .val (.int a1), .val (.int a2), .val (.int a3), .val (.int a4)]
def lMo_addNew_125 (a1 : Int32) (a2 : Int32) (a3 : Int32) (a4 : Int32) : List Slot := [.val (.ref 193), .val (.int a1), .val (.int a2), .val (.int a3), .val (.int a4)]
def lMo_addNew_132 (a1 : Int32) (a2 : Int32) (a3 : Int32) (a4 : Int32) : List Slot := [.val (.ref 193), .val (.int a1), .val (.int a2), .val (.int a3), .val (.int a4)]
theorem bMo_addNew_0 (hX : X.length = 13) (k1 : QW d mMo_addNew 7 (lMo_addNew_7 (mem 193 29) 0 .unset .unset) [] (hpo X mem sw o e) P) : QW d mMo_addNew 0 (qen 5 [.ref 193]) [] (hpo X mem sw o e) P := by
  show QW d mMo_addNew 0 [.val (.ref 193), .unset, .unset, .unset, .unset] [] (hpo X mem sw o e) P
  refine QW.aload_n dMo_addNew_0 rfl rfl ?_
  refine MW.geti hX dMo_addNew_1 fMo_221 rfl rfl ?_
  refine QW.istore_n (ls' := [.val (.ref 193), .val (.int (mem 193 29)), .unset, .unset, .unset]) dMo_addNew_4 rfl rfl ?_
  refine QW.iconst (v := 0) dMo_addNew_5 (by decide) ?_
  refine QW.istore_n (ls' := [.val (.ref 193), .val (.int (mem 193 29)), .val (.int 0), .unset, .unset]) dMo_addNew_6 rfl rfl ?_
  exact k1
theorem bMo_addNew_7 {a1 : Int32} {a2 : Int32} {w3 : Slot} {w4 : Slot} (hX : X.length = 13) (hw3 : qfr w3) (hw4 : qfr w4) (k1 : ((mem 193 26) ≤ a2) → P (.inl (some (.int 1)), (hpo X mem sw o e))) (k2 : (¬ (mem 193 26) ≤ a2) → QW d mMo_addNew 20 (lMo_addNew_20 a1 a2 0 0) [] (hpo X mem sw o e) P) : QW d mMo_addNew 7 (lMo_addNew_7 a1 a2 w3 w4) [] (hpo X mem sw o e) P := by
  show QW d mMo_addNew 7 [.val (.ref 193), .val (.int a1), .val (.int a2), w3, w4] [] (hpo X mem sw o e) P
  refine QW.iload_n dMo_addNew_7 rfl rfl ?_
  refine QW.aload_n dMo_addNew_8 rfl rfl ?_
  refine MW.geti hX dMo_addNew_9 fMo_212 rfl rfl ?_
  refine QW.icmp_ge (tgt := 200) dMo_addNew_12 (by decide) (fun z0 => ?_) (fun z0 => ?_)
  · refine QW.iconst (v := 1) dMo_addNew_200 (by decide) ?_
    exact QW.iret dMo_addNew_201 rfl rfl (k1 z0)
  · refine QW.iconst (v := 0) dMo_addNew_15 (by decide) ?_
    refine QW.istore_n (ls' := [.val (.ref 193), .val (.int a1), .val (.int a2), .val (.int 0), w4]) dMo_addNew_16 rfl (by rcases hw3 with z | ⟨_, z⟩ | ⟨_, z⟩ <;> subst z <;> rfl) ?_
    refine QW.iconst (v := 0) dMo_addNew_17 (by decide) ?_
    refine QW.istore (ls' := [.val (.ref 193), .val (.int a1), .val (.int a2), .val (.int 0), .val (.int 0)]) dMo_addNew_18 (by rcases hw4 with z | ⟨_, z⟩ | ⟨_, z⟩ <;> subst z <;> rfl) ?_
    exact (k2 z0)
theorem bMo_addNew_20 {a1 : Int32} {a2 : Int32} {a3 : Int32} {a4 : Int32} (hX : X.length = 13) (k1 : (a1 ≤ a4) → (¬ a3 = 0) → QW d mMo_addNew 125 (lMo_addNew_125 a1 a2 a3 a4) [] (hpo X mem sw o e) P) (k2 : (a1 ≤ a4) → (a3 = 0) → (¬ (mem 193 29) = 64) → QW d mMo_addNew 125 (lMo_addNew_125 a1 a2 a3 a4) [] (hpo X mem sw o e) P) (k3 : (a1 ≤ a4) → (a3 = 0) → ((mem 193 29) = 64) → P (.inl (some (.int 0)), (hpo X mem sw o e))) (k4 : (¬ a1 ≤ a4) → (¬ a3 = 0) → QW d mMo_addNew 98 (lMo_addNew_98 a1 a2 a3 a4) [] (hpo X mem sw o e) P) (h5 : (¬ a1 ≤ a4) → (a3 = 0) → inx (3 * a4) 192) (h6 : (¬ a1 ≤ a4) → (a3 = 0) → inx (3 * a2) 192) (k7 : (¬ a1 ≤ a4) → (a3 = 0) → (¬ (mem 213 (Int32.toNatClampNeg (3 * a4))) = (mem 211 (Int32.toNatClampNeg (3 * a2)))) → QW d mMo_addNew 102 (lMo_addNew_102 a1 a2 a3 a4) [] (hpo X mem sw o e) P) (h8 : (¬ a1 ≤ a4) → (a3 = 0) → ((mem 213 (Int32.toNatClampNeg (3 * a4))) = (mem 211 (Int32.toNatClampNeg (3 * a2)))) → inx ((3 * a4) + 1) 192) (h9 : (¬ a1 ≤ a4) → (a3 = 0) → ((mem 213 (Int32.toNatClampNeg (3 * a4))) = (mem 211 (Int32.toNatClampNeg (3 * a2)))) → inx ((3 * a2) + 1) 192) (k10 : (¬ a1 ≤ a4) → (a3 = 0) → ((mem 213 (Int32.toNatClampNeg (3 * a4))) = (mem 211 (Int32.toNatClampNeg (3 * a2)))) → (¬ (mem 213 (Int32.toNatClampNeg ((3 * a4) + 1))) = (mem 211 (Int32.toNatClampNeg ((3 * a2) + 1)))) → QW d mMo_addNew 102 (lMo_addNew_102 a1 a2 a3 a4) [] (hpo X mem sw o e) P) (h11 : (¬ a1 ≤ a4) → (a3 = 0) → ((mem 213 (Int32.toNatClampNeg (3 * a4))) = (mem 211 (Int32.toNatClampNeg (3 * a2)))) → ((mem 213 (Int32.toNatClampNeg ((3 * a4) + 1))) = (mem 211 (Int32.toNatClampNeg ((3 * a2) + 1)))) → inx ((3 * a4) + 2) 192) (h12 : (¬ a1 ≤ a4) → (a3 = 0) → ((mem 213 (Int32.toNatClampNeg (3 * a4))) = (mem 211 (Int32.toNatClampNeg (3 * a2)))) → ((mem 213 (Int32.toNatClampNeg ((3 * a4) + 1))) = (mem 211 (Int32.toNatClampNeg ((3 * a2) + 1)))) → inx ((3 * a2) + 2) 192) (k13 : (¬ a1 ≤ a4) → (a3 = 0) → ((mem 213 (Int32.toNatClampNeg (3 * a4))) = (mem 211 (Int32.toNatClampNeg (3 * a2)))) → ((mem 213 (Int32.toNatClampNeg ((3 * a4) + 1))) = (mem 211 (Int32.toNatClampNeg ((3 * a2) + 1)))) → (¬ (mem 213 (Int32.toNatClampNeg ((3 * a4) + 2))) = (mem 211 (Int32.toNatClampNeg ((3 * a2) + 2)))) → QW d mMo_addNew 102 (lMo_addNew_102 a1 a2 a3 a4) [] (hpo X mem sw o e) P) (k14 : (¬ a1 ≤ a4) → (a3 = 0) → ((mem 213 (Int32.toNatClampNeg (3 * a4))) = (mem 211 (Int32.toNatClampNeg (3 * a2)))) → ((mem 213 (Int32.toNatClampNeg ((3 * a4) + 1))) = (mem 211 (Int32.toNatClampNeg ((3 * a2) + 1)))) → ((mem 213 (Int32.toNatClampNeg ((3 * a4) + 2))) = (mem 211 (Int32.toNatClampNeg ((3 * a2) + 2)))) → QW d mMo_addNew 98 (lMo_addNew_98 a1 a2 a3 a4) [] (hpo X mem sw o e) P) : QW d mMo_addNew 20 (lMo_addNew_20 a1 a2 a3 a4) [] (hpo X mem sw o e) P := by
  show QW d mMo_addNew 20 [.val (.ref 193), .val (.int a1), .val (.int a2), .val (.int a3), .val (.int a4)] [] (hpo X mem sw o e) P
  refine QW.iload dMo_addNew_20 rfl ?_
  refine QW.iload_n dMo_addNew_22 rfl rfl ?_
  refine QW.icmp_ge (tgt := 110) dMo_addNew_23 (by decide) (fun z0 => ?_) (fun z0 => ?_)
  · refine QW.iload_n dMo_addNew_110 rfl rfl ?_
    refine QW.if_ne (tgt := 125) dMo_addNew_111 (by decide) (fun z1 => ?_) (fun z1 => ?_)
    · exact (k1 z0 z1)
    · refine QW.aload_n dMo_addNew_114 rfl rfl ?_
      refine MW.geti hX dMo_addNew_115 fMo_221 rfl rfl ?_
      refine QW.bipush (v := 64) dMo_addNew_118 (by decide) ?_
      refine QW.icmp_ne (tgt := 125) dMo_addNew_120 (by decide) (fun z2 => ?_) (fun z2 => ?_)
      · exact (k2 z0 z1 z2)
      · refine QW.iconst (v := 0) dMo_addNew_123 (by decide) ?_
        exact QW.iret dMo_addNew_124 rfl rfl (k3 z0 z1 z2)
  · refine QW.iload_n dMo_addNew_26 rfl rfl ?_
    refine QW.if_ne (tgt := 98) dMo_addNew_27 (by decide) (fun z1 => ?_) (fun z1 => ?_)
    · exact (k4 z0 z1)
    · refine QW.aload_n dMo_addNew_30 rfl rfl ?_
      refine MW.getr (r' := 213) hX dMo_addNew_31 fMo_73 rfl rfl (by cases sw <;> rfl) ?_
      refine QW.iconst (v := 3) dMo_addNew_34 (by decide) ?_
      refine QW.iload dMo_addNew_35 rfl ?_
      refine QW.imul dMo_addNew_37 ?_
      refine MW.iald hX dMo_addNew_38 rfl (h5 z0 z1).1 (rep_get (h5 z0 z1).2) ?_
      refine QW.aload_n dMo_addNew_39 rfl rfl ?_
      refine MW.getr (r' := 211) hX dMo_addNew_40 fMo_67 rfl rfl (by cases sw <;> rfl) ?_
      refine QW.iconst (v := 3) dMo_addNew_43 (by decide) ?_
      refine QW.iload_n dMo_addNew_44 rfl rfl ?_
      refine QW.imul dMo_addNew_45 ?_
      refine MW.iald hX dMo_addNew_46 rfl (h6 z0 z1).1 (rep_get (h6 z0 z1).2) ?_
      refine QW.icmp_ne (tgt := 102) dMo_addNew_47 (by decide) (fun z2 => ?_) (fun z2 => ?_)
      · exact (k7 z0 z1 z2)
      · refine QW.aload_n dMo_addNew_50 rfl rfl ?_
        refine MW.getr (r' := 213) hX dMo_addNew_51 fMo_73 rfl rfl (by cases sw <;> rfl) ?_
        refine QW.iconst (v := 3) dMo_addNew_54 (by decide) ?_
        refine QW.iload dMo_addNew_55 rfl ?_
        refine QW.imul dMo_addNew_57 ?_
        refine QW.iconst (v := 1) dMo_addNew_58 (by decide) ?_
        refine QW.iadd dMo_addNew_59 ?_
        refine MW.iald hX dMo_addNew_60 rfl (h8 z0 z1 z2).1 (rep_get (h8 z0 z1 z2).2) ?_
        refine QW.aload_n dMo_addNew_61 rfl rfl ?_
        refine MW.getr (r' := 211) hX dMo_addNew_62 fMo_67 rfl rfl (by cases sw <;> rfl) ?_
        refine QW.iconst (v := 3) dMo_addNew_65 (by decide) ?_
        refine QW.iload_n dMo_addNew_66 rfl rfl ?_
        refine QW.imul dMo_addNew_67 ?_
        refine QW.iconst (v := 1) dMo_addNew_68 (by decide) ?_
        refine QW.iadd dMo_addNew_69 ?_
        refine MW.iald hX dMo_addNew_70 rfl (h9 z0 z1 z2).1 (rep_get (h9 z0 z1 z2).2) ?_
        refine QW.icmp_ne (tgt := 102) dMo_addNew_71 (by decide) (fun z3 => ?_) (fun z3 => ?_)
        · exact (k10 z0 z1 z2 z3)
        · refine QW.aload_n dMo_addNew_74 rfl rfl ?_
          refine MW.getr (r' := 213) hX dMo_addNew_75 fMo_73 rfl rfl (by cases sw <;> rfl) ?_
          refine QW.iconst (v := 3) dMo_addNew_78 (by decide) ?_
          refine QW.iload dMo_addNew_79 rfl ?_
          refine QW.imul dMo_addNew_81 ?_
          refine QW.iconst (v := 2) dMo_addNew_82 (by decide) ?_
          refine QW.iadd dMo_addNew_83 ?_
          refine MW.iald hX dMo_addNew_84 rfl (h11 z0 z1 z2 z3).1 (rep_get (h11 z0 z1 z2 z3).2) ?_
          refine QW.aload_n dMo_addNew_85 rfl rfl ?_
          refine MW.getr (r' := 211) hX dMo_addNew_86 fMo_67 rfl rfl (by cases sw <;> rfl) ?_
          refine QW.iconst (v := 3) dMo_addNew_89 (by decide) ?_
          refine QW.iload_n dMo_addNew_90 rfl rfl ?_
          refine QW.imul dMo_addNew_91 ?_
          refine QW.iconst (v := 2) dMo_addNew_92 (by decide) ?_
          refine QW.iadd dMo_addNew_93 ?_
          refine MW.iald hX dMo_addNew_94 rfl (h12 z0 z1 z2 z3).1 (rep_get (h12 z0 z1 z2 z3).2) ?_
          refine QW.icmp_ne (tgt := 102) dMo_addNew_95 (by decide) (fun z4 => ?_) (fun z4 => ?_)
          · exact (k13 z0 z1 z2 z3 z4)
          · exact (k14 z0 z1 z2 z3 z4)
theorem bMo_addNew_98 {a1 : Int32} {a2 : Int32} {a3 : Int32} {a4 : Int32} (hX : X.length = 13) (k1 : QW d mMo_addNew 103 (lMo_addNew_103 a1 a2 a3 a4) [.int 1] (hpo X mem sw o e) P) : QW d mMo_addNew 98 (lMo_addNew_98 a1 a2 a3 a4) [] (hpo X mem sw o e) P := by
  show QW d mMo_addNew 98 [.val (.ref 193), .val (.int a1), .val (.int a2), .val (.int a3), .val (.int a4)] [] (hpo X mem sw o e) P
  refine QW.iconst (v := 1) dMo_addNew_98 (by decide) ?_
  refine QW.goto (tgt := 103) dMo_addNew_99 (by decide) ?_
  exact k1
theorem bMo_addNew_102 {a1 : Int32} {a2 : Int32} {a3 : Int32} {a4 : Int32} (hX : X.length = 13) (k1 : QW d mMo_addNew 103 (lMo_addNew_103 a1 a2 a3 a4) [.int 0] (hpo X mem sw o e) P) : QW d mMo_addNew 102 (lMo_addNew_102 a1 a2 a3 a4) [] (hpo X mem sw o e) P := by
  show QW d mMo_addNew 102 [.val (.ref 193), .val (.int a1), .val (.int a2), .val (.int a3), .val (.int a4)] [] (hpo X mem sw o e) P
  refine QW.iconst (v := 0) dMo_addNew_102 (by decide) ?_
  exact k1
theorem bMo_addNew_103 {a1 : Int32} {a2 : Int32} {a3 : Int32} {a4 : Int32} {s0 : Int32} (hX : X.length = 13) (k1 : QW d mMo_addNew 20 (lMo_addNew_20 a1 a2 s0 (a4 + 1)) [] (hpo X mem sw o e) P) : QW d mMo_addNew 103 (lMo_addNew_103 a1 a2 a3 a4) [.int s0] (hpo X mem sw o e) P := by
  show QW d mMo_addNew 103 [.val (.ref 193), .val (.int a1), .val (.int a2), .val (.int a3), .val (.int a4)] [.int s0] (hpo X mem sw o e) P
  refine QW.istore_n (ls' := [.val (.ref 193), .val (.int a1), .val (.int a2), .val (.int s0), .val (.int a4)]) dMo_addNew_103 rfl rfl ?_
  refine MW.iinc (c := 1) (ls' := [.val (.ref 193), .val (.int a1), .val (.int a2), .val (.int s0), .val (.int (a4 + 1))]) dMo_addNew_104 (by decide) rfl rfl ?_
  refine QW.goto (tgt := 20) dMo_addNew_107 (by decide) ?_
  exact k1
theorem bMo_addNew_125 {a1 : Int32} {a2 : Int32} {a3 : Int32} {a4 : Int32} (hX : X.length = 13) (k1 : (¬ a3 = 0) → QW d mMo_addNew 7 (lMo_addNew_7 a1 (a2 + 1) (.val (.int a3)) (.val (.int a4))) [] (hpo X mem sw o e) P) (k2 : (a3 = 0) → QW d mMo_addNew 132 (lMo_addNew_132 a1 a2 a3 0) [] (hpo X mem sw o e) P) : QW d mMo_addNew 125 (lMo_addNew_125 a1 a2 a3 a4) [] (hpo X mem sw o e) P := by
  show QW d mMo_addNew 125 [.val (.ref 193), .val (.int a1), .val (.int a2), .val (.int a3), .val (.int a4)] [] (hpo X mem sw o e) P
  refine QW.iload_n dMo_addNew_125 rfl rfl ?_
  refine QW.if_ne (tgt := 194) dMo_addNew_126 (by decide) (fun z0 => ?_) (fun z0 => ?_)
  · refine MW.iinc (c := 1) (ls' := [.val (.ref 193), .val (.int a1), .val (.int (a2 + 1)), .val (.int a3), .val (.int a4)]) dMo_addNew_194 (by decide) rfl rfl ?_
    refine QW.goto (tgt := 7) dMo_addNew_197 (by decide) ?_
    exact (k1 z0)
  · refine QW.iconst (v := 0) dMo_addNew_129 (by decide) ?_
    refine QW.istore (ls' := [.val (.ref 193), .val (.int a1), .val (.int a2), .val (.int a3), .val (.int 0)]) dMo_addNew_130 rfl ?_
    exact (k2 z0)
theorem bMo_addNew_132 {a1 : Int32} {a2 : Int32} {a3 : Int32} {a4 : Int32} (hX : X.length = 13) (h1 : (3 ≤ a4) → inx a2 64) (h2 : (3 ≤ a4) → inx (mem 193 29) 64) (k3 : (3 ≤ a4) → QW d mMo_addNew 7 (lMo_addNew_7 a1 (a2 + 1) (.val (.int a3)) (.val (.int a4))) [] (hpo X (mup (mup mem 214 (Int32.toNatClampNeg (mem 193 29)) (mem 212 (Int32.toNatClampNeg a2))) 193 29 (((mup mem 214 (Int32.toNatClampNeg (mem 193 29)) (mem 212 (Int32.toNatClampNeg a2))) 193 29) + 1)) sw o e) P) (h4 : (¬ 3 ≤ a4) → inx ((3 * a2) + a4) 192) (h5 : (¬ 3 ≤ a4) → inx ((3 * (mem 193 29)) + a4) 192) (k6 : (¬ 3 ≤ a4) → QW d mMo_addNew 132 (lMo_addNew_132 a1 a2 a3 (a4 + 1)) [] (hpo X (mup mem 213 (Int32.toNatClampNeg ((3 * (mem 193 29)) + a4)) (mem 211 (Int32.toNatClampNeg ((3 * a2) + a4)))) sw o e) P) : QW d mMo_addNew 132 (lMo_addNew_132 a1 a2 a3 a4) [] (hpo X mem sw o e) P := by
  show QW d mMo_addNew 132 [.val (.ref 193), .val (.int a1), .val (.int a2), .val (.int a3), .val (.int a4)] [] (hpo X mem sw o e) P
  refine QW.iload dMo_addNew_132 rfl ?_
  refine QW.iconst (v := 3) dMo_addNew_134 (by decide) ?_
  refine QW.icmp_ge (tgt := 169) dMo_addNew_135 (by decide) (fun z0 => ?_) (fun z0 => ?_)
  · refine QW.aload_n dMo_addNew_169 rfl rfl ?_
    refine MW.getr (r' := 214) hX dMo_addNew_170 fMo_76 rfl rfl (by cases sw <;> rfl) ?_
    refine QW.aload_n dMo_addNew_173 rfl rfl ?_
    refine MW.geti hX dMo_addNew_174 fMo_221 rfl rfl ?_
    refine QW.aload_n dMo_addNew_177 rfl rfl ?_
    refine MW.getr (r' := 212) hX dMo_addNew_178 fMo_70 rfl rfl (by cases sw <;> rfl) ?_
    refine QW.iload_n dMo_addNew_181 rfl rfl ?_
    refine MW.iald hX dMo_addNew_182 rfl (h1 z0).1 (rep_get (h1 z0).2) ?_
    refine MW.iast hX dMo_addNew_183 rfl (h2 z0).1 (rep_get (h2 z0).2) ?_
    refine QW.aload_n dMo_addNew_184 rfl rfl ?_
    refine QW.dup dMo_addNew_185 rfl ?_
    refine MW.geti hX dMo_addNew_186 fMo_221 rfl rfl ?_
    refine QW.iconst (v := 1) dMo_addNew_189 (by decide) ?_
    refine QW.iadd dMo_addNew_190 ?_
    refine MW.puti hX dMo_addNew_191 fMo_221 rfl rfl rfl ?_
    refine MW.iinc (c := 1) (ls' := [.val (.ref 193), .val (.int a1), .val (.int (a2 + 1)), .val (.int a3), .val (.int a4)]) dMo_addNew_194 (by decide) rfl rfl ?_
    refine QW.goto (tgt := 7) dMo_addNew_197 (by decide) ?_
    exact (k3 z0)
  · refine QW.aload_n dMo_addNew_138 rfl rfl ?_
    refine MW.getr (r' := 213) hX dMo_addNew_139 fMo_73 rfl rfl (by cases sw <;> rfl) ?_
    refine QW.iconst (v := 3) dMo_addNew_142 (by decide) ?_
    refine QW.aload_n dMo_addNew_143 rfl rfl ?_
    refine MW.geti hX dMo_addNew_144 fMo_221 rfl rfl ?_
    refine QW.imul dMo_addNew_147 ?_
    refine QW.iload dMo_addNew_148 rfl ?_
    refine QW.iadd dMo_addNew_150 ?_
    refine QW.aload_n dMo_addNew_151 rfl rfl ?_
    refine MW.getr (r' := 211) hX dMo_addNew_152 fMo_67 rfl rfl (by cases sw <;> rfl) ?_
    refine QW.iconst (v := 3) dMo_addNew_155 (by decide) ?_
    refine QW.iload_n dMo_addNew_156 rfl rfl ?_
    refine QW.imul dMo_addNew_157 ?_
    refine QW.iload dMo_addNew_158 rfl ?_
    refine QW.iadd dMo_addNew_160 ?_
    refine MW.iald hX dMo_addNew_161 rfl (h4 z0).1 (rep_get (h4 z0).2) ?_
    refine MW.iast hX dMo_addNew_162 rfl (h5 z0).1 (rep_get (h5 z0).2) ?_
    refine MW.iinc (c := 1) (ls' := [.val (.ref 193), .val (.int a1), .val (.int a2), .val (.int a3), .val (.int (a4 + 1))]) dMo_addNew_163 (by decide) rfl rfl ?_
    refine QW.goto (tgt := 132) dMo_addNew_166 (by decide) ?_
    exact (k6 z0)
theorem dMo_merge_0 : decode mMo_merge.2.1 0 = .ok (.aload_n 0, 1) := by decide +kernel
theorem dMo_merge_1 : decode mMo_merge.2.1 1 = .ok (.getfield 221, 3) := by decide +kernel
theorem dMo_merge_4 : decode mMo_merge.2.1 4 = .ok (.istore_n 2, 1) := by decide +kernel
theorem dMo_merge_5 : decode mMo_merge.2.1 5 = .ok (.iconst 0, 1) := by decide +kernel
theorem dMo_merge_6 : decode mMo_merge.2.1 6 = .ok (.istore_n 3, 1) := by decide +kernel
theorem dMo_merge_7 : decode mMo_merge.2.1 7 = .ok (.iconst 0, 1) := by decide +kernel
theorem dMo_merge_8 : decode mMo_merge.2.1 8 = .ok (.istore 4, 2) := by decide +kernel
theorem dMo_merge_10 : decode mMo_merge.2.1 10 = .ok (.iload 4, 2) := by decide +kernel
theorem dMo_merge_12 : decode mMo_merge.2.1 12 = .ok (.iload_n 2, 1) := by decide +kernel
theorem dMo_merge_13 : decode mMo_merge.2.1 13 = .ok (.if_icmp .ge 137, 3) := by decide +kernel
theorem dMo_merge_16 : decode mMo_merge.2.1 16 = .ok (.aload_n 0, 1) := by decide +kernel
theorem dMo_merge_17 : decode mMo_merge.2.1 17 = .ok (.iload 4, 2) := by decide +kernel
theorem dMo_merge_19 : decode mMo_merge.2.1 19 = .ok (.invokevirtual 224, 3) := by decide +kernel
theorem dMo_merge_22 : decode mMo_merge.2.1 22 = .ok (.istore 5, 2) := by decide +kernel
theorem dMo_merge_24 : decode mMo_merge.2.1 24 = .ok (.iload_n 1, 1) := by decide +kernel
theorem dMo_merge_25 : decode mMo_merge.2.1 25 = .ok (.ifCond .ne 16, 3) := by decide +kernel
theorem dMo_merge_28 : decode mMo_merge.2.1 28 = .ok (.aload_n 0, 1) := by decide +kernel
theorem dMo_merge_29 : decode mMo_merge.2.1 29 = .ok (.getfield 76, 3) := by decide +kernel
theorem dMo_merge_32 : decode mMo_merge.2.1 32 = .ok (.iload 4, 2) := by decide +kernel
theorem dMo_merge_34 : decode mMo_merge.2.1 34 = .ok (.iaload, 1) := by decide +kernel
theorem dMo_merge_35 : decode mMo_merge.2.1 35 = .ok (.iload 5, 2) := by decide +kernel
theorem dMo_merge_37 : decode mMo_merge.2.1 37 = .ok (.iadd, 1) := by decide +kernel
theorem dMo_merge_38 : decode mMo_merge.2.1 38 = .ok (.goto 45, 3) := by decide +kernel
theorem dMo_merge_41 : decode mMo_merge.2.1 41 = .ok (.iload_n 1, 1) := by decide +kernel
theorem dMo_merge_42 : decode mMo_merge.2.1 42 = .ok (.iconst 1, 1) := by decide +kernel
theorem dMo_merge_43 : decode mMo_merge.2.1 43 = .ok (.if_icmp .ne 16, 3) := by decide +kernel
theorem dMo_merge_46 : decode mMo_merge.2.1 46 = .ok (.aload_n 0, 1) := by decide +kernel
theorem dMo_merge_47 : decode mMo_merge.2.1 47 = .ok (.getfield 76, 3) := by decide +kernel
theorem dMo_merge_50 : decode mMo_merge.2.1 50 = .ok (.iload 4, 2) := by decide +kernel
theorem dMo_merge_52 : decode mMo_merge.2.1 52 = .ok (.iaload, 1) := by decide +kernel
theorem dMo_merge_53 : decode mMo_merge.2.1 53 = .ok (.iload 5, 2) := by decide +kernel
theorem dMo_merge_55 : decode mMo_merge.2.1 55 = .ok (.isub, 1) := by decide +kernel
theorem dMo_merge_56 : decode mMo_merge.2.1 56 = .ok (.goto 27, 3) := by decide +kernel
theorem dMo_merge_59 : decode mMo_merge.2.1 59 = .ok (.aload_n 0, 1) := by decide +kernel
theorem dMo_merge_60 : decode mMo_merge.2.1 60 = .ok (.getfield 76, 3) := by decide +kernel
theorem dMo_merge_63 : decode mMo_merge.2.1 63 = .ok (.iload 4, 2) := by decide +kernel
theorem dMo_merge_65 : decode mMo_merge.2.1 65 = .ok (.iaload, 1) := by decide +kernel
theorem dMo_merge_66 : decode mMo_merge.2.1 66 = .ok (.iload 5, 2) := by decide +kernel
theorem dMo_merge_68 : decode mMo_merge.2.1 68 = .ok (.if_icmp .ge 13, 3) := by decide +kernel
theorem dMo_merge_71 : decode mMo_merge.2.1 71 = .ok (.aload_n 0, 1) := by decide +kernel
theorem dMo_merge_72 : decode mMo_merge.2.1 72 = .ok (.getfield 76, 3) := by decide +kernel
theorem dMo_merge_75 : decode mMo_merge.2.1 75 = .ok (.iload 4, 2) := by decide +kernel
theorem dMo_merge_77 : decode mMo_merge.2.1 77 = .ok (.iaload, 1) := by decide +kernel
theorem dMo_merge_78 : decode mMo_merge.2.1 78 = .ok (.goto 5, 3) := by decide +kernel
theorem dMo_merge_81 : decode mMo_merge.2.1 81 = .ok (.iload 5, 2) := by decide +kernel
theorem dMo_merge_83 : decode mMo_merge.2.1 83 = .ok (.istore 6, 2) := by decide +kernel
theorem dMo_merge_85 : decode mMo_merge.2.1 85 = .ok (.iconst 0, 1) := by decide +kernel
theorem dMo_merge_86 : decode mMo_merge.2.1 86 = .ok (.istore 7, 2) := by decide +kernel
theorem dMo_merge_88 : decode mMo_merge.2.1 88 = .ok (.iload 7, 2) := by decide +kernel
theorem dMo_merge_90 : decode mMo_merge.2.1 90 = .ok (.iconst 3, 1) := by decide +kernel
theorem dMo_merge_91 : decode mMo_merge.2.1 91 = .ok (.if_icmp .ge 32, 3) := by decide +kernel
theorem dMo_merge_94 : decode mMo_merge.2.1 94 = .ok (.aload_n 0, 1) := by decide +kernel
theorem dMo_merge_95 : decode mMo_merge.2.1 95 = .ok (.getfield 73, 3) := by decide +kernel
theorem dMo_merge_98 : decode mMo_merge.2.1 98 = .ok (.iconst 3, 1) := by decide +kernel
theorem dMo_merge_99 : decode mMo_merge.2.1 99 = .ok (.iload_n 3, 1) := by decide +kernel
theorem dMo_merge_100 : decode mMo_merge.2.1 100 = .ok (.imul, 1) := by decide +kernel
theorem dMo_merge_101 : decode mMo_merge.2.1 101 = .ok (.iload 7, 2) := by decide +kernel
theorem dMo_merge_103 : decode mMo_merge.2.1 103 = .ok (.iadd, 1) := by decide +kernel
theorem dMo_merge_104 : decode mMo_merge.2.1 104 = .ok (.aload_n 0, 1) := by decide +kernel
theorem dMo_merge_105 : decode mMo_merge.2.1 105 = .ok (.getfield 73, 3) := by decide +kernel
theorem dMo_merge_108 : decode mMo_merge.2.1 108 = .ok (.iconst 3, 1) := by decide +kernel
theorem dMo_merge_109 : decode mMo_merge.2.1 109 = .ok (.iload 4, 2) := by decide +kernel
theorem dMo_merge_111 : decode mMo_merge.2.1 111 = .ok (.imul, 1) := by decide +kernel
theorem dMo_merge_112 : decode mMo_merge.2.1 112 = .ok (.iload 7, 2) := by decide +kernel
theorem dMo_merge_114 : decode mMo_merge.2.1 114 = .ok (.iadd, 1) := by decide +kernel
theorem dMo_merge_115 : decode mMo_merge.2.1 115 = .ok (.iaload, 1) := by decide +kernel
theorem dMo_merge_116 : decode mMo_merge.2.1 116 = .ok (.iastore, 1) := by decide +kernel
theorem dMo_merge_117 : decode mMo_merge.2.1 117 = .ok (.iinc 7 1, 3) := by decide +kernel
theorem dMo_merge_120 : decode mMo_merge.2.1 120 = .ok (.goto (-32), 3) := by decide +kernel
theorem dMo_merge_123 : decode mMo_merge.2.1 123 = .ok (.aload_n 0, 1) := by decide +kernel
theorem dMo_merge_124 : decode mMo_merge.2.1 124 = .ok (.getfield 76, 3) := by decide +kernel
theorem dMo_merge_127 : decode mMo_merge.2.1 127 = .ok (.iload_n 3, 1) := by decide +kernel
theorem dMo_merge_128 : decode mMo_merge.2.1 128 = .ok (.iload 6, 2) := by decide +kernel
theorem dMo_merge_130 : decode mMo_merge.2.1 130 = .ok (.iastore, 1) := by decide +kernel
theorem dMo_merge_131 : decode mMo_merge.2.1 131 = .ok (.iload_n 3, 1) := by decide +kernel
theorem dMo_merge_132 : decode mMo_merge.2.1 132 = .ok (.iload 6, 2) := by decide +kernel
theorem dMo_merge_134 : decode mMo_merge.2.1 134 = .ok (.ifCond .le 7, 3) := by decide +kernel
theorem dMo_merge_137 : decode mMo_merge.2.1 137 = .ok (.iconst 1, 1) := by decide +kernel
theorem dMo_merge_138 : decode mMo_merge.2.1 138 = .ok (.goto 4, 3) := by decide +kernel
theorem dMo_merge_141 : decode mMo_merge.2.1 141 = .ok (.iconst 0, 1) := by decide +kernel
theorem dMo_merge_142 : decode mMo_merge.2.1 142 = .ok (.iadd, 1) := by decide +kernel
theorem dMo_merge_143 : decode mMo_merge.2.1 143 = .ok (.istore_n 3, 1) := by decide +kernel
theorem dMo_merge_144 : decode mMo_merge.2.1 144 = .ok (.iinc 4 1, 3) := by decide +kernel
theorem dMo_merge_147 : decode mMo_merge.2.1 147 = .ok (.goto (-137), 3) := by decide +kernel
theorem dMo_merge_150 : decode mMo_merge.2.1 150 = .ok (.aload_n 0, 1) := by decide +kernel
theorem dMo_merge_151 : decode mMo_merge.2.1 151 = .ok (.iload_n 3, 1) := by decide +kernel
theorem dMo_merge_152 : decode mMo_merge.2.1 152 = .ok (.putfield 221, 3) := by decide +kernel
theorem dMo_merge_155 : decode mMo_merge.2.1 155 = .ok (.iload_n 1, 1) := by decide +kernel
theorem dMo_merge_156 : decode mMo_merge.2.1 156 = .ok (.ifCond .gt 10, 3) := by decide +kernel
theorem dMo_merge_159 : decode mMo_merge.2.1 159 = .ok (.aload_n 0, 1) := by decide +kernel
theorem dMo_merge_160 : decode mMo_merge.2.1 160 = .ok (.invokevirtual 228, 3) := by decide +kernel
theorem dMo_merge_163 : decode mMo_merge.2.1 163 = .ok (.ifCond .eq 7, 3) := by decide +kernel
theorem dMo_merge_166 : decode mMo_merge.2.1 166 = .ok (.iconst 1, 1) := by decide +kernel
theorem dMo_merge_167 : decode mMo_merge.2.1 167 = .ok (.goto 4, 3) := by decide +kernel
theorem dMo_merge_170 : decode mMo_merge.2.1 170 = .ok (.iconst 0, 1) := by decide +kernel
theorem dMo_merge_171 : decode mMo_merge.2.1 171 = .ok (.ireturn, 1) := by decide +kernel
def lMo_merge_10 (a1 : Int32) (a2 : Int32) (a3 : Int32) (a4 : Int32) (w5 : Slot) (w6 : Slot) (w7 : Slot) : List Slot := [.val (.ref 193), .val (.int a1), .val (.int a2), .val (.int a3), .val (.int a4), w5, w6, w7]
def lMo_merge_22 (a1 : Int32) (a2 : Int32) (a3 : Int32) (a4 : Int32) (w5 : Slot) (w6 : Slot) (w7 : Slot) : List Slot := [.val (.ref 193), .val (.int a1), .val (.int a2), .val (.int a3), .val (.int a4), w5, w6, w7]
def lMo_merge_83 (a1 : Int32) (a2 : Int32) (a3 : Int32) (a4 : Int32) (a5 : Int32) (w6 : Slot) (w7 : Slot) : List Slot := [.val (.ref 193), .val (.int a1), .val (.int a2), .val (.int a3), .val (.int a4), .val (.int a5), w6, w7]
def lMo_merge_88 (a1 : Int32) (a2 : Int32) (a3 : Int32) (a4 : Int32) (a5 : Int32) (a6 : Int32) (a7 : Int32) : List Slot := [.val (.ref 193), .val (.int a1), .val (.int a2), .val (.int a3), .val (.int a4), .val (.int a5), .val (.int a6), .val (.int a7)]
def lMo_merge_142 (a1 : Int32) (a2 : Int32) (a3 : Int32) (a4 : Int32) (a5 : Int32) (a6 : Int32) (a7 : Int32) : List Slot := [.val (.ref 193), .val (.int a1), .val (.int a2), .val (.int a3), .val (.int a4), .val (.int a5), .val (.int a6), .val (.int a7)]
def lMo_merge_163 (a1 : Int32) (a2 : Int32) (a3 : Int32) (a4 : Int32) (w5 : Slot) (w6 : Slot) (w7 : Slot) : List Slot := [.val (.ref 193), .val (.int a1), .val (.int a2), .val (.int a3), .val (.int a4), w5, w6, w7]
def lMo_merge_166 (a1 : Int32) (a2 : Int32) (a3 : Int32) (a4 : Int32) (w5 : Slot) (w6 : Slot) (w7 : Slot) : List Slot := [.val (.ref 193), .val (.int a1), .val (.int a2), .val (.int a3), .val (.int a4), w5, w6, w7]
theorem bMo_merge_0 {a1 : Int32} (hX : X.length = 13) (k1 : QW d mMo_merge 10 (lMo_merge_10 a1 (mem 193 29) 0 0 .unset .unset .unset) [] (hpo X mem sw o e) P) : QW d mMo_merge 0 (qen 8 [.ref 193, .int a1]) [] (hpo X mem sw o e) P := by
  show QW d mMo_merge 0 [.val (.ref 193), .val (.int a1), .unset, .unset, .unset, .unset, .unset, .unset] [] (hpo X mem sw o e) P
  refine QW.aload_n dMo_merge_0 rfl rfl ?_
  refine MW.geti hX dMo_merge_1 fMo_221 rfl rfl ?_
  refine QW.istore_n (ls' := [.val (.ref 193), .val (.int a1), .val (.int (mem 193 29)), .unset, .unset, .unset, .unset, .unset]) dMo_merge_4 rfl rfl ?_
  refine QW.iconst (v := 0) dMo_merge_5 (by decide) ?_
  refine QW.istore_n (ls' := [.val (.ref 193), .val (.int a1), .val (.int (mem 193 29)), .val (.int 0), .unset, .unset, .unset, .unset]) dMo_merge_6 rfl rfl ?_
  refine QW.iconst (v := 0) dMo_merge_7 (by decide) ?_
  refine QW.istore (ls' := [.val (.ref 193), .val (.int a1), .val (.int (mem 193 29)), .val (.int 0), .val (.int 0), .unset, .unset, .unset]) dMo_merge_8 rfl ?_
  exact k1
theorem bMo_merge_10 {a1 : Int32} {a2 : Int32} {a3 : Int32} {a4 : Int32} {w5 : Slot} {w6 : Slot} {w7 : Slot} (hX : X.length = 13) (hw5 : qfr w5) (hw6 : qfr w6) (hw7 : qfr w7) (k1 : (a2 ≤ a4) → (0 < a1) → QW (d + 1) mMo_merge 166 (lMo_merge_166 a1 a2 a3 a4 w5 w6 w7) [] (hpo X (mup mem 193 29 a3) sw o e) P) (k2 : (a2 ≤ a4) → (¬ 0 < a1) → QW d mMo_addNew 0 (qen 5 [.ref 193]) [] (hpo X (mup mem 193 29 a3) sw o e) (qcl d mMo_merge 160 163 (lMo_merge_163 a1 a2 a3 a4 w5 w6 w7) [] P)) (k3 : (¬ a2 ≤ a4) → QW d mMo_inBlock 0 (qen 4 [.ref 193, .int a4]) [] (hpo X mem sw o e) (qcl d mMo_merge 19 22 (lMo_merge_22 a1 a2 a3 a4 w5 w6 w7) [] P)) : QW (d + 1) mMo_merge 10 (lMo_merge_10 a1 a2 a3 a4 w5 w6 w7) [] (hpo X mem sw o e) P := by
  show QW (d + 1) mMo_merge 10 [.val (.ref 193), .val (.int a1), .val (.int a2), .val (.int a3), .val (.int a4), w5, w6, w7] [] (hpo X mem sw o e) P
  refine QW.iload dMo_merge_10 rfl ?_
  refine QW.iload_n dMo_merge_12 rfl rfl ?_
  refine QW.icmp_ge (tgt := 150) dMo_merge_13 (by decide) (fun z0 => ?_) (fun z0 => ?_)
  · refine QW.aload_n dMo_merge_150 rfl rfl ?_
    refine QW.iload_n dMo_merge_151 rfl rfl ?_
    refine MW.puti hX dMo_merge_152 fMo_221 rfl rfl rfl ?_
    refine QW.iload_n dMo_merge_155 rfl rfl ?_
    refine QW.if_gt (tgt := 166) dMo_merge_156 (by decide) (fun z1 => ?_) (fun z1 => ?_)
    · exact (k1 z0 z1)
    · refine QW.aload_n dMo_merge_159 rfl rfl ?_
      exact MW.calV (as := []) (rest := []) hX dMo_merge_160 eMo_addNew lMo_228 iMo_addNew vMo_addNew rfl rfl rfl rfl rfl rfl (Nat.le_of_ble_eq_true rfl) rfl (k2 z0 z1)
  · refine QW.aload_n dMo_merge_16 rfl rfl ?_
    refine QW.iload dMo_merge_17 rfl ?_
    exact MW.calV (as := [.int a4]) (rest := []) hX dMo_merge_19 eMo_inBlock lMo_224 iMo_inBlock vMo_inBlock rfl rfl rfl rfl rfl rfl (Nat.le_of_ble_eq_true rfl) rfl (k3 z0)
theorem bMo_merge_22 {a1 : Int32} {a2 : Int32} {a3 : Int32} {a4 : Int32} {w5 : Slot} {w6 : Slot} {w7 : Slot} {s0 : Int32} (hX : X.length = 13) (hw5 : qfr w5) (hw6 : qfr w6) (hw7 : qfr w7) (h1 : (¬ a1 = 0) → (¬ a1 = 1) → inx a4 64) (k2 : (¬ a1 = 0) → (¬ a1 = 1) → (s0 ≤ (mem 214 (Int32.toNatClampNeg a4))) → QW d mMo_merge 83 (lMo_merge_83 a1 a2 a3 a4 s0 w6 w7) [.int s0] (hpo X mem sw o e) P) (h3 : (¬ a1 = 0) → (¬ a1 = 1) → (¬ s0 ≤ (mem 214 (Int32.toNatClampNeg a4))) → inx a4 64) (k4 : (¬ a1 = 0) → (¬ a1 = 1) → (¬ s0 ≤ (mem 214 (Int32.toNatClampNeg a4))) → QW d mMo_merge 83 (lMo_merge_83 a1 a2 a3 a4 s0 w6 w7) [.int (mem 214 (Int32.toNatClampNeg a4))] (hpo X mem sw o e) P) (h5 : (¬ a1 = 0) → (a1 = 1) → inx a4 64) (k6 : (¬ a1 = 0) → (a1 = 1) → QW d mMo_merge 83 (lMo_merge_83 a1 a2 a3 a4 s0 w6 w7) [.int ((mem 214 (Int32.toNatClampNeg a4)) - s0)] (hpo X mem sw o e) P) (h7 : (a1 = 0) → inx a4 64) (k8 : (a1 = 0) → QW d mMo_merge 83 (lMo_merge_83 a1 a2 a3 a4 s0 w6 w7) [.int ((mem 214 (Int32.toNatClampNeg a4)) + s0)] (hpo X mem sw o e) P) : QW d mMo_merge 22 (lMo_merge_22 a1 a2 a3 a4 w5 w6 w7) [.int s0] (hpo X mem sw o e) P := by
  show QW d mMo_merge 22 [.val (.ref 193), .val (.int a1), .val (.int a2), .val (.int a3), .val (.int a4), w5, w6, w7] [.int s0] (hpo X mem sw o e) P
  refine QW.istore (ls' := [.val (.ref 193), .val (.int a1), .val (.int a2), .val (.int a3), .val (.int a4), .val (.int s0), w6, w7]) dMo_merge_22 (by rcases hw5 with z | ⟨_, z⟩ | ⟨_, z⟩ <;> subst z <;> rfl) ?_
  refine QW.iload_n dMo_merge_24 rfl rfl ?_
  refine QW.if_ne (tgt := 41) dMo_merge_25 (by decide) (fun z0 => ?_) (fun z0 => ?_)
  · refine QW.iload_n dMo_merge_41 rfl rfl ?_
    refine QW.iconst (v := 1) dMo_merge_42 (by decide) ?_
    refine QW.icmp_ne (tgt := 59) dMo_merge_43 (by decide) (fun z1 => ?_) (fun z1 => ?_)
    · refine QW.aload_n dMo_merge_59 rfl rfl ?_
      refine MW.getr (r' := 214) hX dMo_merge_60 fMo_76 rfl rfl (by cases sw <;> rfl) ?_
      refine QW.iload dMo_merge_63 rfl ?_
      refine MW.iald hX dMo_merge_65 rfl (h1 z0 z1).1 (rep_get (h1 z0 z1).2) ?_
      refine QW.iload dMo_merge_66 rfl ?_
      refine QW.icmp_ge (tgt := 81) dMo_merge_68 (by decide) (fun z2 => ?_) (fun z2 => ?_)
      · refine QW.iload dMo_merge_81 rfl ?_
        exact (k2 z0 z1 z2)
      · refine QW.aload_n dMo_merge_71 rfl rfl ?_
        refine MW.getr (r' := 214) hX dMo_merge_72 fMo_76 rfl rfl (by cases sw <;> rfl) ?_
        refine QW.iload dMo_merge_75 rfl ?_
        refine MW.iald hX dMo_merge_77 rfl (h3 z0 z1 z2).1 (rep_get (h3 z0 z1 z2).2) ?_
        refine QW.goto (tgt := 83) dMo_merge_78 (by decide) ?_
        exact (k4 z0 z1 z2)
    · refine QW.aload_n dMo_merge_46 rfl rfl ?_
      refine MW.getr (r' := 214) hX dMo_merge_47 fMo_76 rfl rfl (by cases sw <;> rfl) ?_
      refine QW.iload dMo_merge_50 rfl ?_
      refine MW.iald hX dMo_merge_52 rfl (h5 z0 z1).1 (rep_get (h5 z0 z1).2) ?_
      refine QW.iload dMo_merge_53 rfl ?_
      refine QW.isub dMo_merge_55 ?_
      refine QW.goto (tgt := 83) dMo_merge_56 (by decide) ?_
      exact (k6 z0 z1)
  · refine QW.aload_n dMo_merge_28 rfl rfl ?_
    refine MW.getr (r' := 214) hX dMo_merge_29 fMo_76 rfl rfl (by cases sw <;> rfl) ?_
    refine QW.iload dMo_merge_32 rfl ?_
    refine MW.iald hX dMo_merge_34 rfl (h7 z0).1 (rep_get (h7 z0).2) ?_
    refine QW.iload dMo_merge_35 rfl ?_
    refine QW.iadd dMo_merge_37 ?_
    refine QW.goto (tgt := 83) dMo_merge_38 (by decide) ?_
    exact (k8 z0)
theorem bMo_merge_83 {a1 : Int32} {a2 : Int32} {a3 : Int32} {a4 : Int32} {a5 : Int32} {w6 : Slot} {w7 : Slot} {s0 : Int32} (hX : X.length = 13) (hw6 : qfr w6) (hw7 : qfr w7) (k1 : QW d mMo_merge 88 (lMo_merge_88 a1 a2 a3 a4 a5 s0 0) [] (hpo X mem sw o e) P) : QW d mMo_merge 83 (lMo_merge_83 a1 a2 a3 a4 a5 w6 w7) [.int s0] (hpo X mem sw o e) P := by
  show QW d mMo_merge 83 [.val (.ref 193), .val (.int a1), .val (.int a2), .val (.int a3), .val (.int a4), .val (.int a5), w6, w7] [.int s0] (hpo X mem sw o e) P
  refine QW.istore (ls' := [.val (.ref 193), .val (.int a1), .val (.int a2), .val (.int a3), .val (.int a4), .val (.int a5), .val (.int s0), w7]) dMo_merge_83 (by rcases hw6 with z | ⟨_, z⟩ | ⟨_, z⟩ <;> subst z <;> rfl) ?_
  refine QW.iconst (v := 0) dMo_merge_85 (by decide) ?_
  refine QW.istore (ls' := [.val (.ref 193), .val (.int a1), .val (.int a2), .val (.int a3), .val (.int a4), .val (.int a5), .val (.int s0), .val (.int 0)]) dMo_merge_86 (by rcases hw7 with z | ⟨_, z⟩ | ⟨_, z⟩ <;> subst z <;> rfl) ?_
  exact k1
theorem bMo_merge_88 {a1 : Int32} {a2 : Int32} {a3 : Int32} {a4 : Int32} {a5 : Int32} {a6 : Int32} {a7 : Int32} (hX : X.length = 13) (h1 : (3 ≤ a7) → inx a3 64) (k2 : (3 ≤ a7) → (a6 ≤ 0) → QW d mMo_merge 142 (lMo_merge_142 a1 a2 a3 a4 a5 a6 a7) [.int 0, .int a3] (hpo X (mup mem 214 (Int32.toNatClampNeg a3) a6) sw o e) P) (k3 : (3 ≤ a7) → (¬ a6 ≤ 0) → QW d mMo_merge 142 (lMo_merge_142 a1 a2 a3 a4 a5 a6 a7) [.int 1, .int a3] (hpo X (mup mem 214 (Int32.toNatClampNeg a3) a6) sw o e) P) (h4 : (¬ 3 ≤ a7) → inx ((3 * a4) + a7) 192) (h5 : (¬ 3 ≤ a7) → inx ((3 * a3) + a7) 192) (k6 : (¬ 3 ≤ a7) → QW d mMo_merge 88 (lMo_merge_88 a1 a2 a3 a4 a5 a6 (a7 + 1)) [] (hpo X (mup mem 213 (Int32.toNatClampNeg ((3 * a3) + a7)) (mem 213 (Int32.toNatClampNeg ((3 * a4) + a7)))) sw o e) P) : QW d mMo_merge 88 (lMo_merge_88 a1 a2 a3 a4 a5 a6 a7) [] (hpo X mem sw o e) P := by
  show QW d mMo_merge 88 [.val (.ref 193), .val (.int a1), .val (.int a2), .val (.int a3), .val (.int a4), .val (.int a5), .val (.int a6), .val (.int a7)] [] (hpo X mem sw o e) P
  refine QW.iload dMo_merge_88 rfl ?_
  refine QW.iconst (v := 3) dMo_merge_90 (by decide) ?_
  refine QW.icmp_ge (tgt := 123) dMo_merge_91 (by decide) (fun z0 => ?_) (fun z0 => ?_)
  · refine QW.aload_n dMo_merge_123 rfl rfl ?_
    refine MW.getr (r' := 214) hX dMo_merge_124 fMo_76 rfl rfl (by cases sw <;> rfl) ?_
    refine QW.iload_n dMo_merge_127 rfl rfl ?_
    refine QW.iload dMo_merge_128 rfl ?_
    refine MW.iast hX dMo_merge_130 rfl (h1 z0).1 (rep_get (h1 z0).2) ?_
    refine QW.iload_n dMo_merge_131 rfl rfl ?_
    refine QW.iload dMo_merge_132 rfl ?_
    refine QW.if_le (tgt := 141) dMo_merge_134 (by decide) (fun z1 => ?_) (fun z1 => ?_)
    · refine QW.iconst (v := 0) dMo_merge_141 (by decide) ?_
      exact (k2 z0 z1)
    · refine QW.iconst (v := 1) dMo_merge_137 (by decide) ?_
      refine QW.goto (tgt := 142) dMo_merge_138 (by decide) ?_
      exact (k3 z0 z1)
  · refine QW.aload_n dMo_merge_94 rfl rfl ?_
    refine MW.getr (r' := 213) hX dMo_merge_95 fMo_73 rfl rfl (by cases sw <;> rfl) ?_
    refine QW.iconst (v := 3) dMo_merge_98 (by decide) ?_
    refine QW.iload_n dMo_merge_99 rfl rfl ?_
    refine QW.imul dMo_merge_100 ?_
    refine QW.iload dMo_merge_101 rfl ?_
    refine QW.iadd dMo_merge_103 ?_
    refine QW.aload_n dMo_merge_104 rfl rfl ?_
    refine MW.getr (r' := 213) hX dMo_merge_105 fMo_73 rfl rfl (by cases sw <;> rfl) ?_
    refine QW.iconst (v := 3) dMo_merge_108 (by decide) ?_
    refine QW.iload dMo_merge_109 rfl ?_
    refine QW.imul dMo_merge_111 ?_
    refine QW.iload dMo_merge_112 rfl ?_
    refine QW.iadd dMo_merge_114 ?_
    refine MW.iald hX dMo_merge_115 rfl (h4 z0).1 (rep_get (h4 z0).2) ?_
    refine MW.iast hX dMo_merge_116 rfl (h5 z0).1 (rep_get (h5 z0).2) ?_
    refine MW.iinc (c := 1) (ls' := [.val (.ref 193), .val (.int a1), .val (.int a2), .val (.int a3), .val (.int a4), .val (.int a5), .val (.int a6), .val (.int (a7 + 1))]) dMo_merge_117 (by decide) rfl rfl ?_
    refine QW.goto (tgt := 88) dMo_merge_120 (by decide) ?_
    exact (k6 z0)
theorem bMo_merge_142 {a1 : Int32} {a2 : Int32} {a3 : Int32} {a4 : Int32} {a5 : Int32} {a6 : Int32} {a7 : Int32} {s1 : Int32} {s0 : Int32} (hX : X.length = 13) (k1 : QW d mMo_merge 10 (lMo_merge_10 a1 a2 (s0 + s1) (a4 + 1) (.val (.int a5)) (.val (.int a6)) (.val (.int a7))) [] (hpo X mem sw o e) P) : QW d mMo_merge 142 (lMo_merge_142 a1 a2 a3 a4 a5 a6 a7) [.int s1, .int s0] (hpo X mem sw o e) P := by
  show QW d mMo_merge 142 [.val (.ref 193), .val (.int a1), .val (.int a2), .val (.int a3), .val (.int a4), .val (.int a5), .val (.int a6), .val (.int a7)] [.int s1, .int s0] (hpo X mem sw o e) P
  refine QW.iadd dMo_merge_142 ?_
  refine QW.istore_n (ls' := [.val (.ref 193), .val (.int a1), .val (.int a2), .val (.int (s0 + s1)), .val (.int a4), .val (.int a5), .val (.int a6), .val (.int a7)]) dMo_merge_143 rfl rfl ?_
  refine MW.iinc (c := 1) (ls' := [.val (.ref 193), .val (.int a1), .val (.int a2), .val (.int (s0 + s1)), .val (.int (a4 + 1)), .val (.int a5), .val (.int a6), .val (.int a7)]) dMo_merge_144 (by decide) rfl rfl ?_
  refine QW.goto (tgt := 10) dMo_merge_147 (by decide) ?_
  exact k1
theorem bMo_merge_163 {a1 : Int32} {a2 : Int32} {a3 : Int32} {a4 : Int32} {w5 : Slot} {w6 : Slot} {w7 : Slot} {s0 : Int32} (hX : X.length = 13) (hw5 : qfr w5) (hw6 : qfr w6) (hw7 : qfr w7) (k1 : (s0 = 0) → P (.inl (some (.int 0)), (hpo X mem sw o e))) (k2 : (¬ s0 = 0) → QW d mMo_merge 166 (lMo_merge_166 a1 a2 a3 a4 w5 w6 w7) [] (hpo X mem sw o e) P) : QW d mMo_merge 163 (lMo_merge_163 a1 a2 a3 a4 w5 w6 w7) [.int s0] (hpo X mem sw o e) P := by
  show QW d mMo_merge 163 [.val (.ref 193), .val (.int a1), .val (.int a2), .val (.int a3), .val (.int a4), w5, w6, w7] [.int s0] (hpo X mem sw o e) P
  refine QW.if_eq (tgt := 170) dMo_merge_163 (by decide) (fun z0 => ?_) (fun z0 => ?_)
  · refine QW.iconst (v := 0) dMo_merge_170 (by decide) ?_
    exact QW.iret dMo_merge_171 rfl rfl (k1 z0)
  · exact (k2 z0)
theorem bMo_merge_166 {a1 : Int32} {a2 : Int32} {a3 : Int32} {a4 : Int32} {w5 : Slot} {w6 : Slot} {w7 : Slot} (hX : X.length = 13) (hw5 : qfr w5) (hw6 : qfr w6) (hw7 : qfr w7) (k1 : P (.inl (some (.int 1)), (hpo X mem sw o e))) : QW d mMo_merge 166 (lMo_merge_166 a1 a2 a3 a4 w5 w6 w7) [] (hpo X mem sw o e) P := by
  show QW d mMo_merge 166 [.val (.ref 193), .val (.int a1), .val (.int a2), .val (.int a3), .val (.int a4), w5, w6, w7] [] (hpo X mem sw o e) P
  refine QW.iconst (v := 1) dMo_merge_166 (by decide) ?_
  refine QW.goto (tgt := 171) dMo_merge_167 (by decide) ?_
  exact QW.iret dMo_merge_171 rfl rfl k1
theorem dMo_isBefore_0 : decode mMo_isBefore.2.1 0 = .ok (.iconst 0, 1) := by decide +kernel
theorem dMo_isBefore_1 : decode mMo_isBefore.2.1 1 = .ok (.istore_n 3, 1) := by decide +kernel
theorem dMo_isBefore_2 : decode mMo_isBefore.2.1 2 = .ok (.iload_n 3, 1) := by decide +kernel
theorem dMo_isBefore_3 : decode mMo_isBefore.2.1 3 = .ok (.iconst 3, 1) := by decide +kernel
theorem dMo_isBefore_4 : decode mMo_isBefore.2.1 4 = .ok (.if_icmp .ge 61, 3) := by decide +kernel
theorem dMo_isBefore_7 : decode mMo_isBefore.2.1 7 = .ok (.aload_n 0, 1) := by decide +kernel
theorem dMo_isBefore_8 : decode mMo_isBefore.2.1 8 = .ok (.getfield 73, 3) := by decide +kernel
theorem dMo_isBefore_11 : decode mMo_isBefore.2.1 11 = .ok (.iconst 3, 1) := by decide +kernel
theorem dMo_isBefore_12 : decode mMo_isBefore.2.1 12 = .ok (.iload_n 1, 1) := by decide +kernel
theorem dMo_isBefore_13 : decode mMo_isBefore.2.1 13 = .ok (.imul, 1) := by decide +kernel
theorem dMo_isBefore_14 : decode mMo_isBefore.2.1 14 = .ok (.iload_n 3, 1) := by decide +kernel
theorem dMo_isBefore_15 : decode mMo_isBefore.2.1 15 = .ok (.iadd, 1) := by decide +kernel
theorem dMo_isBefore_16 : decode mMo_isBefore.2.1 16 = .ok (.iaload, 1) := by decide +kernel
theorem dMo_isBefore_17 : decode mMo_isBefore.2.1 17 = .ok (.aload_n 0, 1) := by decide +kernel
theorem dMo_isBefore_18 : decode mMo_isBefore.2.1 18 = .ok (.getfield 73, 3) := by decide +kernel
theorem dMo_isBefore_21 : decode mMo_isBefore.2.1 21 = .ok (.iconst 3, 1) := by decide +kernel
theorem dMo_isBefore_22 : decode mMo_isBefore.2.1 22 = .ok (.iload_n 2, 1) := by decide +kernel
theorem dMo_isBefore_23 : decode mMo_isBefore.2.1 23 = .ok (.imul, 1) := by decide +kernel
theorem dMo_isBefore_24 : decode mMo_isBefore.2.1 24 = .ok (.iload_n 3, 1) := by decide +kernel
theorem dMo_isBefore_25 : decode mMo_isBefore.2.1 25 = .ok (.iadd, 1) := by decide +kernel
theorem dMo_isBefore_26 : decode mMo_isBefore.2.1 26 = .ok (.iaload, 1) := by decide +kernel
theorem dMo_isBefore_27 : decode mMo_isBefore.2.1 27 = .ok (.if_icmp .eq 32, 3) := by decide +kernel
theorem dMo_isBefore_30 : decode mMo_isBefore.2.1 30 = .ok (.aload_n 0, 1) := by decide +kernel
theorem dMo_isBefore_31 : decode mMo_isBefore.2.1 31 = .ok (.getfield 73, 3) := by decide +kernel
theorem dMo_isBefore_34 : decode mMo_isBefore.2.1 34 = .ok (.iconst 3, 1) := by decide +kernel
theorem dMo_isBefore_35 : decode mMo_isBefore.2.1 35 = .ok (.iload_n 1, 1) := by decide +kernel
theorem dMo_isBefore_36 : decode mMo_isBefore.2.1 36 = .ok (.imul, 1) := by decide +kernel
theorem dMo_isBefore_37 : decode mMo_isBefore.2.1 37 = .ok (.iload_n 3, 1) := by decide +kernel
theorem dMo_isBefore_38 : decode mMo_isBefore.2.1 38 = .ok (.iadd, 1) := by decide +kernel
theorem dMo_isBefore_39 : decode mMo_isBefore.2.1 39 = .ok (.iaload, 1) := by decide +kernel
theorem dMo_isBefore_40 : decode mMo_isBefore.2.1 40 = .ok (.aload_n 0, 1) := by decide +kernel
theorem dMo_isBefore_41 : decode mMo_isBefore.2.1 41 = .ok (.getfield 73, 3) := by decide +kernel
theorem dMo_isBefore_44 : decode mMo_isBefore.2.1 44 = .ok (.iconst 3, 1) := by decide +kernel
theorem dMo_isBefore_45 : decode mMo_isBefore.2.1 45 = .ok (.iload_n 2, 1) := by decide +kernel
theorem dMo_isBefore_46 : decode mMo_isBefore.2.1 46 = .ok (.imul, 1) := by decide +kernel
theorem dMo_isBefore_47 : decode mMo_isBefore.2.1 47 = .ok (.iload_n 3, 1) := by decide +kernel
theorem dMo_isBefore_48 : decode mMo_isBefore.2.1 48 = .ok (.iadd, 1) := by decide +kernel
theorem dMo_isBefore_49 : decode mMo_isBefore.2.1 49 = .ok (.iaload, 1) := by decide +kernel
theorem dMo_isBefore_50 : decode mMo_isBefore.2.1 50 = .ok (.if_icmp .ge 7, 3) := by decide +kernel
theorem dMo_isBefore_53 : decode mMo_isBefore.2.1 53 = .ok (.iconst 1, 1) := by decide +kernel
theorem dMo_isBefore_54 : decode mMo_isBefore.2.1 54 = .ok (.goto 4, 3) := by decide +kernel
theorem dMo_isBefore_57 : decode mMo_isBefore.2.1 57 = .ok (.iconst 0, 1) := by decide +kernel
theorem dMo_isBefore_58 : decode mMo_isBefore.2.1 58 = .ok (.ireturn, 1) := by decide +kernel
theorem dMo_isBefore_59 : decode mMo_isBefore.2.1 59 = .ok (.iinc 3 1, 3) := by decide +kernel
theorem dMo_isBefore_62 : decode mMo_isBefore.2.1 62 = .ok (.goto (-60), 3) := by decide +kernel
theorem dMo_isBefore_65 : decode mMo_isBefore.2.1 65 = .ok (.iconst 0, 1) := by decide +kernel
theorem dMo_isBefore_66 : decode mMo_isBefore.2.1 66 = .ok (.ireturn, 1) := by decide +kernel
def lMo_isBefore_2 (a1 : Int32) (a2 : Int32) (a3 : Int32) : List Slot := [.val (.ref 193), .val (.int a1), .val (.int a2), .val (.int a3)]
theorem bMo_isBefore_0 {a1 : Int32} {a2 : Int32} (hX : X.length = 13) (k1 : QW d mMo_isBefore 2 (lMo_isBefore_2 a1 a2 0) [] (hpo X mem sw o e) P) : QW d mMo_isBefore 0 (qen 4 [.ref 193, .int a1, .int a2]) [] (hpo X mem sw o e) P := by
  show QW d mMo_isBefore 0 [.val (.ref 193), .val (.int a1), .val (.int a2), .unset] [] (hpo X mem sw o e) P
  refine QW.iconst (v := 0) dMo_isBefore_0 (by decide) ?_
  refine QW.istore_n (ls' := [.val (.ref 193), .val (.int a1), .val (.int a2), .val (.int 0)]) dMo_isBefore_1 rfl rfl ?_
  exact k1
theorem bMo_isBefore_2 {a1 : Int32} {a2 : Int32} {a3 : Int32} (hX : X.length = 13) (k1 : (3 ≤ a3) → P (.inl (some (.int 0)), (hpo X mem sw o e))) (h2 : (¬ 3 ≤ a3) → inx ((3 * a1) + a3) 192) (h3 : (¬ 3 ≤ a3) → inx ((3 * a2) + a3) 192) (k4 : (¬ 3 ≤ a3) → ((mem 213 (Int32.toNatClampNeg ((3 * a1) + a3))) = (mem 213 (Int32.toNatClampNeg ((3 * a2) + a3)))) → QW d mMo_isBefore 2 (lMo_isBefore_2 a1 a2 (a3 + 1)) [] (hpo X mem sw o e) P) (h5 : (¬ 3 ≤ a3) → (¬ (mem 213 (Int32.toNatClampNeg ((3 * a1) + a3))) = (mem 213 (Int32.toNatClampNeg ((3 * a2) + a3)))) → inx ((3 * a1) + a3) 192) (h6 : (¬ 3 ≤ a3) → (¬ (mem 213 (Int32.toNatClampNeg ((3 * a1) + a3))) = (mem 213 (Int32.toNatClampNeg ((3 * a2) + a3)))) → inx ((3 * a2) + a3) 192) (k7 : (¬ 3 ≤ a3) → (¬ (mem 213 (Int32.toNatClampNeg ((3 * a1) + a3))) = (mem 213 (Int32.toNatClampNeg ((3 * a2) + a3)))) → ((mem 213 (Int32.toNatClampNeg ((3 * a2) + a3))) ≤ (mem 213 (Int32.toNatClampNeg ((3 * a1) + a3)))) → P (.inl (some (.int 0)), (hpo X mem sw o e))) (k8 : (¬ 3 ≤ a3) → (¬ (mem 213 (Int32.toNatClampNeg ((3 * a1) + a3))) = (mem 213 (Int32.toNatClampNeg ((3 * a2) + a3)))) → (¬ (mem 213 (Int32.toNatClampNeg ((3 * a2) + a3))) ≤ (mem 213 (Int32.toNatClampNeg ((3 * a1) + a3)))) → P (.inl (some (.int 1)), (hpo X mem sw o e))) : QW d mMo_isBefore 2 (lMo_isBefore_2 a1 a2 a3) [] (hpo X mem sw o e) P := by
  show QW d mMo_isBefore 2 [.val (.ref 193), .val (.int a1), .val (.int a2), .val (.int a3)] [] (hpo X mem sw o e) P
  refine QW.iload_n dMo_isBefore_2 rfl rfl ?_
  refine QW.iconst (v := 3) dMo_isBefore_3 (by decide) ?_
  refine QW.icmp_ge (tgt := 65) dMo_isBefore_4 (by decide) (fun z0 => ?_) (fun z0 => ?_)
  · refine QW.iconst (v := 0) dMo_isBefore_65 (by decide) ?_
    exact QW.iret dMo_isBefore_66 rfl rfl (k1 z0)
  · refine QW.aload_n dMo_isBefore_7 rfl rfl ?_
    refine MW.getr (r' := 213) hX dMo_isBefore_8 fMo_73 rfl rfl (by cases sw <;> rfl) ?_
    refine QW.iconst (v := 3) dMo_isBefore_11 (by decide) ?_
    refine QW.iload_n dMo_isBefore_12 rfl rfl ?_
    refine QW.imul dMo_isBefore_13 ?_
    refine QW.iload_n dMo_isBefore_14 rfl rfl ?_
    refine QW.iadd dMo_isBefore_15 ?_
    refine MW.iald hX dMo_isBefore_16 rfl (h2 z0).1 (rep_get (h2 z0).2) ?_
    refine QW.aload_n dMo_isBefore_17 rfl rfl ?_
    refine MW.getr (r' := 213) hX dMo_isBefore_18 fMo_73 rfl rfl (by cases sw <;> rfl) ?_
    refine QW.iconst (v := 3) dMo_isBefore_21 (by decide) ?_
    refine QW.iload_n dMo_isBefore_22 rfl rfl ?_
    refine QW.imul dMo_isBefore_23 ?_
    refine QW.iload_n dMo_isBefore_24 rfl rfl ?_
    refine QW.iadd dMo_isBefore_25 ?_
    refine MW.iald hX dMo_isBefore_26 rfl (h3 z0).1 (rep_get (h3 z0).2) ?_
    refine QW.icmp_eq (tgt := 59) dMo_isBefore_27 (by decide) (fun z1 => ?_) (fun z1 => ?_)
    · refine MW.iinc (c := 1) (ls' := [.val (.ref 193), .val (.int a1), .val (.int a2), .val (.int (a3 + 1))]) dMo_isBefore_59 (by decide) rfl rfl ?_
      refine QW.goto (tgt := 2) dMo_isBefore_62 (by decide) ?_
      exact (k4 z0 z1)
    · refine QW.aload_n dMo_isBefore_30 rfl rfl ?_
      refine MW.getr (r' := 213) hX dMo_isBefore_31 fMo_73 rfl rfl (by cases sw <;> rfl) ?_
      refine QW.iconst (v := 3) dMo_isBefore_34 (by decide) ?_
      refine QW.iload_n dMo_isBefore_35 rfl rfl ?_
      refine QW.imul dMo_isBefore_36 ?_
      refine QW.iload_n dMo_isBefore_37 rfl rfl ?_
      refine QW.iadd dMo_isBefore_38 ?_
      refine MW.iald hX dMo_isBefore_39 rfl (h5 z0 z1).1 (rep_get (h5 z0 z1).2) ?_
      refine QW.aload_n dMo_isBefore_40 rfl rfl ?_
      refine MW.getr (r' := 213) hX dMo_isBefore_41 fMo_73 rfl rfl (by cases sw <;> rfl) ?_
      refine QW.iconst (v := 3) dMo_isBefore_44 (by decide) ?_
      refine QW.iload_n dMo_isBefore_45 rfl rfl ?_
      refine QW.imul dMo_isBefore_46 ?_
      refine QW.iload_n dMo_isBefore_47 rfl rfl ?_
      refine QW.iadd dMo_isBefore_48 ?_
      refine MW.iald hX dMo_isBefore_49 rfl (h6 z0 z1).1 (rep_get (h6 z0 z1).2) ?_
      refine QW.icmp_ge (tgt := 57) dMo_isBefore_50 (by decide) (fun z2 => ?_) (fun z2 => ?_)
      · refine QW.iconst (v := 0) dMo_isBefore_57 (by decide) ?_
        exact QW.iret dMo_isBefore_58 rfl rfl (k7 z0 z1 z2)
      · refine QW.iconst (v := 1) dMo_isBefore_53 (by decide) ?_
        refine QW.goto (tgt := 58) dMo_isBefore_54 (by decide) ?_
        exact QW.iret dMo_isBefore_58 rfl rfl (k8 z0 z1 z2)
theorem dMo_settle_0 : decode mMo_settle.2.1 0 = .ok (.iconst 0, 1) := by decide +kernel
theorem dMo_settle_1 : decode mMo_settle.2.1 1 = .ok (.istore_n 2, 1) := by decide +kernel
theorem dMo_settle_2 : decode mMo_settle.2.1 2 = .ok (.iload_n 2, 1) := by decide +kernel
theorem dMo_settle_3 : decode mMo_settle.2.1 3 = .ok (.aload_n 0, 1) := by decide +kernel
theorem dMo_settle_4 : decode mMo_settle.2.1 4 = .ok (.getfield 221, 3) := by decide +kernel
theorem dMo_settle_7 : decode mMo_settle.2.1 7 = .ok (.if_icmp .ge 96, 3) := by decide +kernel
theorem dMo_settle_10 : decode mMo_settle.2.1 10 = .ok (.iconst 0, 1) := by decide +kernel
theorem dMo_settle_11 : decode mMo_settle.2.1 11 = .ok (.istore_n 3, 1) := by decide +kernel
theorem dMo_settle_12 : decode mMo_settle.2.1 12 = .ok (.iconst 0, 1) := by decide +kernel
theorem dMo_settle_13 : decode mMo_settle.2.1 13 = .ok (.istore 4, 2) := by decide +kernel
theorem dMo_settle_15 : decode mMo_settle.2.1 15 = .ok (.iload 4, 2) := by decide +kernel
theorem dMo_settle_17 : decode mMo_settle.2.1 17 = .ok (.aload_n 0, 1) := by decide +kernel
theorem dMo_settle_18 : decode mMo_settle.2.1 18 = .ok (.getfield 221, 3) := by decide +kernel
theorem dMo_settle_21 : decode mMo_settle.2.1 21 = .ok (.if_icmp .ge 27, 3) := by decide +kernel
theorem dMo_settle_24 : decode mMo_settle.2.1 24 = .ok (.iload_n 3, 1) := by decide +kernel
theorem dMo_settle_25 : decode mMo_settle.2.1 25 = .ok (.aload_n 0, 1) := by decide +kernel
theorem dMo_settle_26 : decode mMo_settle.2.1 26 = .ok (.iload 4, 2) := by decide +kernel
theorem dMo_settle_28 : decode mMo_settle.2.1 28 = .ok (.iload_n 2, 1) := by decide +kernel
theorem dMo_settle_29 : decode mMo_settle.2.1 29 = .ok (.invokevirtual 231, 3) := by decide +kernel
theorem dMo_settle_32 : decode mMo_settle.2.1 32 = .ok (.ifCond .eq 7, 3) := by decide +kernel
theorem dMo_settle_35 : decode mMo_settle.2.1 35 = .ok (.iconst 1, 1) := by decide +kernel
theorem dMo_settle_36 : decode mMo_settle.2.1 36 = .ok (.goto 4, 3) := by decide +kernel
theorem dMo_settle_39 : decode mMo_settle.2.1 39 = .ok (.iconst 0, 1) := by decide +kernel
theorem dMo_settle_40 : decode mMo_settle.2.1 40 = .ok (.iadd, 1) := by decide +kernel
theorem dMo_settle_41 : decode mMo_settle.2.1 41 = .ok (.istore_n 3, 1) := by decide +kernel
theorem dMo_settle_42 : decode mMo_settle.2.1 42 = .ok (.iinc 4 1, 3) := by decide +kernel
theorem dMo_settle_45 : decode mMo_settle.2.1 45 = .ok (.goto (-30), 3) := by decide +kernel
theorem dMo_settle_48 : decode mMo_settle.2.1 48 = .ok (.iconst 0, 1) := by decide +kernel
theorem dMo_settle_49 : decode mMo_settle.2.1 49 = .ok (.istore 4, 2) := by decide +kernel
theorem dMo_settle_51 : decode mMo_settle.2.1 51 = .ok (.iload 4, 2) := by decide +kernel
theorem dMo_settle_53 : decode mMo_settle.2.1 53 = .ok (.iconst 3, 1) := by decide +kernel
theorem dMo_settle_54 : decode mMo_settle.2.1 54 = .ok (.if_icmp .ge 31, 3) := by decide +kernel
theorem dMo_settle_57 : decode mMo_settle.2.1 57 = .ok (.aload_n 0, 1) := by decide +kernel
theorem dMo_settle_58 : decode mMo_settle.2.1 58 = .ok (.getfield 79, 3) := by decide +kernel
theorem dMo_settle_61 : decode mMo_settle.2.1 61 = .ok (.iconst 3, 1) := by decide +kernel
theorem dMo_settle_62 : decode mMo_settle.2.1 62 = .ok (.iload_n 3, 1) := by decide +kernel
theorem dMo_settle_63 : decode mMo_settle.2.1 63 = .ok (.imul, 1) := by decide +kernel
theorem dMo_settle_64 : decode mMo_settle.2.1 64 = .ok (.iload 4, 2) := by decide +kernel
theorem dMo_settle_66 : decode mMo_settle.2.1 66 = .ok (.iadd, 1) := by decide +kernel
theorem dMo_settle_67 : decode mMo_settle.2.1 67 = .ok (.aload_n 0, 1) := by decide +kernel
theorem dMo_settle_68 : decode mMo_settle.2.1 68 = .ok (.getfield 73, 3) := by decide +kernel
theorem dMo_settle_71 : decode mMo_settle.2.1 71 = .ok (.iconst 3, 1) := by decide +kernel
theorem dMo_settle_72 : decode mMo_settle.2.1 72 = .ok (.iload_n 2, 1) := by decide +kernel
theorem dMo_settle_73 : decode mMo_settle.2.1 73 = .ok (.imul, 1) := by decide +kernel
theorem dMo_settle_74 : decode mMo_settle.2.1 74 = .ok (.iload 4, 2) := by decide +kernel
theorem dMo_settle_76 : decode mMo_settle.2.1 76 = .ok (.iadd, 1) := by decide +kernel
theorem dMo_settle_77 : decode mMo_settle.2.1 77 = .ok (.iaload, 1) := by decide +kernel
theorem dMo_settle_78 : decode mMo_settle.2.1 78 = .ok (.iastore, 1) := by decide +kernel
theorem dMo_settle_79 : decode mMo_settle.2.1 79 = .ok (.iinc 4 1, 3) := by decide +kernel
theorem dMo_settle_82 : decode mMo_settle.2.1 82 = .ok (.goto (-31), 3) := by decide +kernel
theorem dMo_settle_85 : decode mMo_settle.2.1 85 = .ok (.aload_n 0, 1) := by decide +kernel
theorem dMo_settle_86 : decode mMo_settle.2.1 86 = .ok (.getfield 82, 3) := by decide +kernel
theorem dMo_settle_89 : decode mMo_settle.2.1 89 = .ok (.iload_n 3, 1) := by decide +kernel
theorem dMo_settle_90 : decode mMo_settle.2.1 90 = .ok (.aload_n 0, 1) := by decide +kernel
theorem dMo_settle_91 : decode mMo_settle.2.1 91 = .ok (.getfield 76, 3) := by decide +kernel
theorem dMo_settle_94 : decode mMo_settle.2.1 94 = .ok (.iload_n 2, 1) := by decide +kernel
theorem dMo_settle_95 : decode mMo_settle.2.1 95 = .ok (.iaload, 1) := by decide +kernel
theorem dMo_settle_96 : decode mMo_settle.2.1 96 = .ok (.iastore, 1) := by decide +kernel
theorem dMo_settle_97 : decode mMo_settle.2.1 97 = .ok (.iinc 2 1, 3) := by decide +kernel
theorem dMo_settle_100 : decode mMo_settle.2.1 100 = .ok (.goto (-98), 3) := by decide +kernel
theorem dMo_settle_103 : decode mMo_settle.2.1 103 = .ok (.aload_n 0, 1) := by decide +kernel
theorem dMo_settle_104 : decode mMo_settle.2.1 104 = .ok (.aload_n 0, 1) := by decide +kernel
theorem dMo_settle_105 : decode mMo_settle.2.1 105 = .ok (.getfield 221, 3) := by decide +kernel
theorem dMo_settle_108 : decode mMo_settle.2.1 108 = .ok (.putfield 234, 3) := by decide +kernel
theorem dMo_settle_111 : decode mMo_settle.2.1 111 = .ok (.aload_n 0, 1) := by decide +kernel
theorem dMo_settle_112 : decode mMo_settle.2.1 112 = .ok (.aload_n 0, 1) := by decide +kernel
theorem dMo_settle_113 : decode mMo_settle.2.1 113 = .ok (.getfield 40, 3) := by decide +kernel
theorem dMo_settle_116 : decode mMo_settle.2.1 116 = .ok (.iconst 3, 1) := by decide +kernel
theorem dMo_settle_117 : decode mMo_settle.2.1 117 = .ok (.iload_n 1, 1) := by decide +kernel
theorem dMo_settle_118 : decode mMo_settle.2.1 118 = .ok (.imul, 1) := by decide +kernel
theorem dMo_settle_119 : decode mMo_settle.2.1 119 = .ok (.iaload, 1) := by decide +kernel
theorem dMo_settle_120 : decode mMo_settle.2.1 120 = .ok (.putfield 237, 3) := by decide +kernel
theorem dMo_settle_123 : decode mMo_settle.2.1 123 = .ok (.return_, 1) := by decide +kernel
def lMo_settle_2 (a1 : Int32) (a2 : Int32) (w3 : Slot) (w4 : Slot) : List Slot := [.val (.ref 193), .val (.int a1), .val (.int a2), w3, w4]
def lMo_settle_15 (a1 : Int32) (a2 : Int32) (a3 : Int32) (a4 : Int32) : List Slot := [.val (.ref 193), .val (.int a1), .val (.int a2), .val (.int a3), .val (.int a4)]
def lMo_settle_32 (a1 : Int32) (a2 : Int32) (a3 : Int32) (a4 : Int32) : List Slot := [.val (.ref 193), .val (.int a1), .val (.int a2), .val (.int a3), .val (.int a4)]
def lMo_settle_40 (a1 : Int32) (a2 : Int32) (a3 : Int32) (a4 : Int32) : List Slot := [.val (.ref 193), .val (.int a1), .val (.int a2), .val (.int a3), .val (.int a4)]
def lMo_settle_51 (a1 : Int32) (a2 : Int32) (a3 : Int32) (a4 : Int32) : List Slot := [.val (.ref 193), .val (.int a1), .val (.int a2), .val (.int a3), .val (.int a4)]
theorem bMo_settle_0 {a1 : Int32} (hX : X.length = 13) (k1 : QW d mMo_settle 2 (lMo_settle_2 a1 0 .unset .unset) [] (hpo X mem sw o e) P) : QW d mMo_settle 0 (qen 5 [.ref 193, .int a1]) [] (hpo X mem sw o e) P := by
  show QW d mMo_settle 0 [.val (.ref 193), .val (.int a1), .unset, .unset, .unset] [] (hpo X mem sw o e) P
  refine QW.iconst (v := 0) dMo_settle_0 (by decide) ?_
  refine QW.istore_n (ls' := [.val (.ref 193), .val (.int a1), .val (.int 0), .unset, .unset]) dMo_settle_1 rfl rfl ?_
  exact k1
theorem bMo_settle_2 {a1 : Int32} {a2 : Int32} {w3 : Slot} {w4 : Slot} (hX : X.length = 13) (hw3 : qfr w3) (hw4 : qfr w4) (h1 : ((mem 193 29) ≤ a2) → inx (3 * a1) 15) (k2 : ((mem 193 29) ≤ a2) → P (.inl none, (hpo X (mup (mup mem 193 33 (mem 193 29)) 193 34 ((mup mem 193 33 (mem 193 29)) 202 (Int32.toNatClampNeg (3 * a1)))) sw o e))) (k3 : (¬ (mem 193 29) ≤ a2) → QW d mMo_settle 15 (lMo_settle_15 a1 a2 0 0) [] (hpo X mem sw o e) P) : QW d mMo_settle 2 (lMo_settle_2 a1 a2 w3 w4) [] (hpo X mem sw o e) P := by
  show QW d mMo_settle 2 [.val (.ref 193), .val (.int a1), .val (.int a2), w3, w4] [] (hpo X mem sw o e) P
  refine QW.iload_n dMo_settle_2 rfl rfl ?_
  refine QW.aload_n dMo_settle_3 rfl rfl ?_
  refine MW.geti hX dMo_settle_4 fMo_221 rfl rfl ?_
  refine QW.icmp_ge (tgt := 103) dMo_settle_7 (by decide) (fun z0 => ?_) (fun z0 => ?_)
  · refine QW.aload_n dMo_settle_103 rfl rfl ?_
    refine QW.aload_n dMo_settle_104 rfl rfl ?_
    refine MW.geti hX dMo_settle_105 fMo_221 rfl rfl ?_
    refine MW.puti hX dMo_settle_108 fMo_234 rfl rfl rfl ?_
    refine QW.aload_n dMo_settle_111 rfl rfl ?_
    refine QW.aload_n dMo_settle_112 rfl rfl ?_
    refine MW.getr (r' := 202) hX dMo_settle_113 fMo_40 rfl rfl (by cases sw <;> rfl) ?_
    refine QW.iconst (v := 3) dMo_settle_116 (by decide) ?_
    refine QW.iload_n dMo_settle_117 rfl rfl ?_
    refine QW.imul dMo_settle_118 ?_
    refine MW.iald hX dMo_settle_119 rfl (h1 z0).1 (rep_get (h1 z0).2) ?_
    refine MW.puti hX dMo_settle_120 fMo_237 rfl rfl rfl ?_
    exact QW.vret dMo_settle_123 rfl (k2 z0)
  · refine QW.iconst (v := 0) dMo_settle_10 (by decide) ?_
    refine QW.istore_n (ls' := [.val (.ref 193), .val (.int a1), .val (.int a2), .val (.int 0), w4]) dMo_settle_11 rfl (by rcases hw3 with z | ⟨_, z⟩ | ⟨_, z⟩ <;> subst z <;> rfl) ?_
    refine QW.iconst (v := 0) dMo_settle_12 (by decide) ?_
    refine QW.istore (ls' := [.val (.ref 193), .val (.int a1), .val (.int a2), .val (.int 0), .val (.int 0)]) dMo_settle_13 (by rcases hw4 with z | ⟨_, z⟩ | ⟨_, z⟩ <;> subst z <;> rfl) ?_
    exact (k3 z0)
theorem bMo_settle_15 {a1 : Int32} {a2 : Int32} {a3 : Int32} {a4 : Int32} (hX : X.length = 13) (k1 : ((mem 193 29) ≤ a4) → QW (d + 1) mMo_settle 51 (lMo_settle_51 a1 a2 a3 0) [] (hpo X mem sw o e) P) (k2 : (¬ (mem 193 29) ≤ a4) → QW d mMo_isBefore 0 (qen 4 [.ref 193, .int a4, .int a2]) [] (hpo X mem sw o e) (qcl d mMo_settle 29 32 (lMo_settle_32 a1 a2 a3 a4) [.int a3] P)) : QW (d + 1) mMo_settle 15 (lMo_settle_15 a1 a2 a3 a4) [] (hpo X mem sw o e) P := by
  show QW (d + 1) mMo_settle 15 [.val (.ref 193), .val (.int a1), .val (.int a2), .val (.int a3), .val (.int a4)] [] (hpo X mem sw o e) P
  refine QW.iload dMo_settle_15 rfl ?_
  refine QW.aload_n dMo_settle_17 rfl rfl ?_
  refine MW.geti hX dMo_settle_18 fMo_221 rfl rfl ?_
  refine QW.icmp_ge (tgt := 48) dMo_settle_21 (by decide) (fun z0 => ?_) (fun z0 => ?_)
  · refine QW.iconst (v := 0) dMo_settle_48 (by decide) ?_
    refine QW.istore (ls' := [.val (.ref 193), .val (.int a1), .val (.int a2), .val (.int a3), .val (.int 0)]) dMo_settle_49 rfl ?_
    exact (k1 z0)
  · refine QW.iload_n dMo_settle_24 rfl rfl ?_
    refine QW.aload_n dMo_settle_25 rfl rfl ?_
    refine QW.iload dMo_settle_26 rfl ?_
    refine QW.iload_n dMo_settle_28 rfl rfl ?_
    exact MW.calV (as := [.int a4, .int a2]) (rest := [.int a3]) hX dMo_settle_29 eMo_isBefore lMo_231 iMo_isBefore vMo_isBefore rfl rfl rfl rfl rfl rfl (Nat.le_of_ble_eq_true rfl) rfl (k2 z0)
theorem bMo_settle_32 {a1 : Int32} {a2 : Int32} {a3 : Int32} {a4 : Int32} {s1 : Int32} {s0 : Int32} (hX : X.length = 13) (k1 : (s1 = 0) → QW d mMo_settle 40 (lMo_settle_40 a1 a2 a3 a4) [.int 0, .int s0] (hpo X mem sw o e) P) (k2 : (¬ s1 = 0) → QW d mMo_settle 40 (lMo_settle_40 a1 a2 a3 a4) [.int 1, .int s0] (hpo X mem sw o e) P) : QW d mMo_settle 32 (lMo_settle_32 a1 a2 a3 a4) [.int s1, .int s0] (hpo X mem sw o e) P := by
  show QW d mMo_settle 32 [.val (.ref 193), .val (.int a1), .val (.int a2), .val (.int a3), .val (.int a4)] [.int s1, .int s0] (hpo X mem sw o e) P
  refine QW.if_eq (tgt := 39) dMo_settle_32 (by decide) (fun z0 => ?_) (fun z0 => ?_)
  · refine QW.iconst (v := 0) dMo_settle_39 (by decide) ?_
    exact (k1 z0)
  · refine QW.iconst (v := 1) dMo_settle_35 (by decide) ?_
    refine QW.goto (tgt := 40) dMo_settle_36 (by decide) ?_
    exact (k2 z0)
theorem bMo_settle_40 {a1 : Int32} {a2 : Int32} {a3 : Int32} {a4 : Int32} {s1 : Int32} {s0 : Int32} (hX : X.length = 13) (k1 : QW d mMo_settle 15 (lMo_settle_15 a1 a2 (s0 + s1) (a4 + 1)) [] (hpo X mem sw o e) P) : QW d mMo_settle 40 (lMo_settle_40 a1 a2 a3 a4) [.int s1, .int s0] (hpo X mem sw o e) P := by
  show QW d mMo_settle 40 [.val (.ref 193), .val (.int a1), .val (.int a2), .val (.int a3), .val (.int a4)] [.int s1, .int s0] (hpo X mem sw o e) P
  refine QW.iadd dMo_settle_40 ?_
  refine QW.istore_n (ls' := [.val (.ref 193), .val (.int a1), .val (.int a2), .val (.int (s0 + s1)), .val (.int a4)]) dMo_settle_41 rfl rfl ?_
  refine MW.iinc (c := 1) (ls' := [.val (.ref 193), .val (.int a1), .val (.int a2), .val (.int (s0 + s1)), .val (.int (a4 + 1))]) dMo_settle_42 (by decide) rfl rfl ?_
  refine QW.goto (tgt := 15) dMo_settle_45 (by decide) ?_
  exact k1
theorem bMo_settle_51 {a1 : Int32} {a2 : Int32} {a3 : Int32} {a4 : Int32} (hX : X.length = 13) (h1 : (3 ≤ a4) → inx a2 64) (h2 : (3 ≤ a4) → inx a3 64) (k3 : (3 ≤ a4) → QW d mMo_settle 2 (lMo_settle_2 a1 (a2 + 1) (.val (.int a3)) (.val (.int a4))) [] (hpo X (mup mem 216 (Int32.toNatClampNeg a3) (mem 214 (Int32.toNatClampNeg a2))) sw o e) P) (h4 : (¬ 3 ≤ a4) → inx ((3 * a2) + a4) 192) (h5 : (¬ 3 ≤ a4) → inx ((3 * a3) + a4) 192) (k6 : (¬ 3 ≤ a4) → QW d mMo_settle 51 (lMo_settle_51 a1 a2 a3 (a4 + 1)) [] (hpo X (mup mem 215 (Int32.toNatClampNeg ((3 * a3) + a4)) (mem 213 (Int32.toNatClampNeg ((3 * a2) + a4)))) sw o e) P) : QW d mMo_settle 51 (lMo_settle_51 a1 a2 a3 a4) [] (hpo X mem sw o e) P := by
  show QW d mMo_settle 51 [.val (.ref 193), .val (.int a1), .val (.int a2), .val (.int a3), .val (.int a4)] [] (hpo X mem sw o e) P
  refine QW.iload dMo_settle_51 rfl ?_
  refine QW.iconst (v := 3) dMo_settle_53 (by decide) ?_
  refine QW.icmp_ge (tgt := 85) dMo_settle_54 (by decide) (fun z0 => ?_) (fun z0 => ?_)
  · refine QW.aload_n dMo_settle_85 rfl rfl ?_
    refine MW.getr (r' := 216) hX dMo_settle_86 fMo_82 rfl rfl (by cases sw <;> rfl) ?_
    refine QW.iload_n dMo_settle_89 rfl rfl ?_
    refine QW.aload_n dMo_settle_90 rfl rfl ?_
    refine MW.getr (r' := 214) hX dMo_settle_91 fMo_76 rfl rfl (by cases sw <;> rfl) ?_
    refine QW.iload_n dMo_settle_94 rfl rfl ?_
    refine MW.iald hX dMo_settle_95 rfl (h1 z0).1 (rep_get (h1 z0).2) ?_
    refine MW.iast hX dMo_settle_96 rfl (h2 z0).1 (rep_get (h2 z0).2) ?_
    refine MW.iinc (c := 1) (ls' := [.val (.ref 193), .val (.int a1), .val (.int (a2 + 1)), .val (.int a3), .val (.int a4)]) dMo_settle_97 (by decide) rfl rfl ?_
    refine QW.goto (tgt := 2) dMo_settle_100 (by decide) ?_
    exact (k3 z0)
  · refine QW.aload_n dMo_settle_57 rfl rfl ?_
    refine MW.getr (r' := 215) hX dMo_settle_58 fMo_79 rfl rfl (by cases sw <;> rfl) ?_
    refine QW.iconst (v := 3) dMo_settle_61 (by decide) ?_
    refine QW.iload_n dMo_settle_62 rfl rfl ?_
    refine QW.imul dMo_settle_63 ?_
    refine QW.iload dMo_settle_64 rfl ?_
    refine QW.iadd dMo_settle_66 ?_
    refine QW.aload_n dMo_settle_67 rfl rfl ?_
    refine MW.getr (r' := 213) hX dMo_settle_68 fMo_73 rfl rfl (by cases sw <;> rfl) ?_
    refine QW.iconst (v := 3) dMo_settle_71 (by decide) ?_
    refine QW.iload_n dMo_settle_72 rfl rfl ?_
    refine QW.imul dMo_settle_73 ?_
    refine QW.iload dMo_settle_74 rfl ?_
    refine QW.iadd dMo_settle_76 ?_
    refine MW.iald hX dMo_settle_77 rfl (h4 z0).1 (rep_get (h4 z0).2) ?_
    refine MW.iast hX dMo_settle_78 rfl (h5 z0).1 (rep_get (h5 z0).2) ?_
    refine MW.iinc (c := 1) (ls' := [.val (.ref 193), .val (.int a1), .val (.int a2), .val (.int a3), .val (.int (a4 + 1))]) dMo_settle_79 (by decide) rfl rfl ?_
    refine QW.goto (tgt := 51) dMo_settle_82 (by decide) ?_
    exact (k6 z0)
theorem dMo_run_0 : decode mMo_run.2.1 0 = .ok (.aload_n 0, 1) := by decide +kernel
theorem dMo_run_1 : decode mMo_run.2.1 1 = .ok (.iload_n 1, 1) := by decide +kernel
theorem dMo_run_2 : decode mMo_run.2.1 2 = .ok (.ifCond .lt 11, 3) := by decide +kernel
theorem dMo_run_5 : decode mMo_run.2.1 5 = .ok (.iload_n 1, 1) := by decide +kernel
theorem dMo_run_6 : decode mMo_run.2.1 6 = .ok (.aload_n 0, 1) := by decide +kernel
theorem dMo_run_7 : decode mMo_run.2.1 7 = .ok (.getfield 202, 3) := by decide +kernel
theorem dMo_run_10 : decode mMo_run.2.1 10 = .ok (.if_icmp .lt 7, 3) := by decide +kernel
theorem dMo_run_13 : decode mMo_run.2.1 13 = .ok (.iconst 1, 1) := by decide +kernel
theorem dMo_run_14 : decode mMo_run.2.1 14 = .ok (.goto 4, 3) := by decide +kernel
theorem dMo_run_17 : decode mMo_run.2.1 17 = .ok (.iconst 0, 1) := by decide +kernel
theorem dMo_run_18 : decode mMo_run.2.1 18 = .ok (.putfield 106, 3) := by decide +kernel
theorem dMo_run_21 : decode mMo_run.2.1 21 = .ok (.aload_n 0, 1) := by decide +kernel
theorem dMo_run_22 : decode mMo_run.2.1 22 = .ok (.getfield 106, 3) := by decide +kernel
theorem dMo_run_25 : decode mMo_run.2.1 25 = .ok (.ifCond .le 5, 3) := by decide +kernel
theorem dMo_run_28 : decode mMo_run.2.1 28 = .ok (.iconst 0, 1) := by decide +kernel
theorem dMo_run_29 : decode mMo_run.2.1 29 = .ok (.ireturn, 1) := by decide +kernel
theorem dMo_run_30 : decode mMo_run.2.1 30 = .ok (.aload_n 0, 1) := by decide +kernel
theorem dMo_run_31 : decode mMo_run.2.1 31 = .ok (.iconst 0, 1) := by decide +kernel
theorem dMo_run_32 : decode mMo_run.2.1 32 = .ok (.putfield 221, 3) := by decide +kernel
theorem dMo_run_35 : decode mMo_run.2.1 35 = .ok (.iconst 0, 1) := by decide +kernel
theorem dMo_run_36 : decode mMo_run.2.1 36 = .ok (.istore_n 2, 1) := by decide +kernel
theorem dMo_run_37 : decode mMo_run.2.1 37 = .ok (.iload_n 2, 1) := by decide +kernel
theorem dMo_run_38 : decode mMo_run.2.1 38 = .ok (.aload_n 0, 1) := by decide +kernel
theorem dMo_run_39 : decode mMo_run.2.1 39 = .ok (.getfield 31, 3) := by decide +kernel
theorem dMo_run_42 : decode mMo_run.2.1 42 = .ok (.iload_n 1, 1) := by decide +kernel
theorem dMo_run_43 : decode mMo_run.2.1 43 = .ok (.iaload, 1) := by decide +kernel
theorem dMo_run_44 : decode mMo_run.2.1 44 = .ok (.if_icmp .ge 55, 3) := by decide +kernel
theorem dMo_run_47 : decode mMo_run.2.1 47 = .ok (.aload_n 0, 1) := by decide +kernel
theorem dMo_run_48 : decode mMo_run.2.1 48 = .ok (.iconst 3, 1) := by decide +kernel
theorem dMo_run_49 : decode mMo_run.2.1 49 = .ok (.iload_n 1, 1) := by decide +kernel
theorem dMo_run_50 : decode mMo_run.2.1 50 = .ok (.imul, 1) := by decide +kernel
theorem dMo_run_51 : decode mMo_run.2.1 51 = .ok (.iload_n 2, 1) := by decide +kernel
theorem dMo_run_52 : decode mMo_run.2.1 52 = .ok (.iadd, 1) := by decide +kernel
theorem dMo_run_53 : decode mMo_run.2.1 53 = .ok (.invokevirtual 240, 3) := by decide +kernel
theorem dMo_run_56 : decode mMo_run.2.1 56 = .ok (.ifCond .eq 30, 3) := by decide +kernel
theorem dMo_run_59 : decode mMo_run.2.1 59 = .ok (.aload_n 0, 1) := by decide +kernel
theorem dMo_run_60 : decode mMo_run.2.1 60 = .ok (.iload_n 2, 1) := by decide +kernel
theorem dMo_run_61 : decode mMo_run.2.1 61 = .ok (.ifCond .ne 7, 3) := by decide +kernel
theorem dMo_run_64 : decode mMo_run.2.1 64 = .ok (.iconst 0, 1) := by decide +kernel
theorem dMo_run_65 : decode mMo_run.2.1 65 = .ok (.goto 15, 3) := by decide +kernel
theorem dMo_run_68 : decode mMo_run.2.1 68 = .ok (.aload_n 0, 1) := by decide +kernel
theorem dMo_run_69 : decode mMo_run.2.1 69 = .ok (.getfield 34, 3) := by decide +kernel
theorem dMo_run_72 : decode mMo_run.2.1 72 = .ok (.iconst 2, 1) := by decide +kernel
theorem dMo_run_73 : decode mMo_run.2.1 73 = .ok (.iload_n 1, 1) := by decide +kernel
theorem dMo_run_74 : decode mMo_run.2.1 74 = .ok (.imul, 1) := by decide +kernel
theorem dMo_run_75 : decode mMo_run.2.1 75 = .ok (.iload_n 2, 1) := by decide +kernel
theorem dMo_run_76 : decode mMo_run.2.1 76 = .ok (.iadd, 1) := by decide +kernel
theorem dMo_run_77 : decode mMo_run.2.1 77 = .ok (.iconst 1, 1) := by decide +kernel
theorem dMo_run_78 : decode mMo_run.2.1 78 = .ok (.isub, 1) := by decide +kernel
theorem dMo_run_79 : decode mMo_run.2.1 79 = .ok (.iaload, 1) := by decide +kernel
theorem dMo_run_80 : decode mMo_run.2.1 80 = .ok (.invokevirtual 243, 3) := by decide +kernel
theorem dMo_run_83 : decode mMo_run.2.1 83 = .ok (.ifCond .ne 10, 3) := by decide +kernel
theorem dMo_run_86 : decode mMo_run.2.1 86 = .ok (.aload_n 0, 1) := by decide +kernel
theorem dMo_run_87 : decode mMo_run.2.1 87 = .ok (.iconst 2, 1) := by decide +kernel
theorem dMo_run_88 : decode mMo_run.2.1 88 = .ok (.putfield 106, 3) := by decide +kernel
theorem dMo_run_91 : decode mMo_run.2.1 91 = .ok (.iconst 0, 1) := by decide +kernel
theorem dMo_run_92 : decode mMo_run.2.1 92 = .ok (.ireturn, 1) := by decide +kernel
theorem dMo_run_93 : decode mMo_run.2.1 93 = .ok (.iinc 2 1, 3) := by decide +kernel
theorem dMo_run_96 : decode mMo_run.2.1 96 = .ok (.goto (-59), 3) := by decide +kernel
theorem dMo_run_99 : decode mMo_run.2.1 99 = .ok (.aload_n 0, 1) := by decide +kernel
theorem dMo_run_100 : decode mMo_run.2.1 100 = .ok (.iload_n 1, 1) := by decide +kernel
theorem dMo_run_101 : decode mMo_run.2.1 101 = .ok (.invokevirtual 246, 3) := by decide +kernel
theorem dMo_run_104 : decode mMo_run.2.1 104 = .ok (.aload_n 0, 1) := by decide +kernel
theorem dMo_run_105 : decode mMo_run.2.1 105 = .ok (.getfield 234, 3) := by decide +kernel
theorem dMo_run_108 : decode mMo_run.2.1 108 = .ok (.ireturn, 1) := by decide +kernel
def lMo_run_13 (a1 : Int32) : List Slot := [.val (.ref 193), .val (.int a1), .unset]
def lMo_run_18 (a1 : Int32) : List Slot := [.val (.ref 193), .val (.int a1), .unset]
def lMo_run_37 (a1 : Int32) (a2 : Int32) : List Slot := [.val (.ref 193), .val (.int a1), .val (.int a2)]
def lMo_run_56 (a1 : Int32) (a2 : Int32) : List Slot := [.val (.ref 193), .val (.int a1), .val (.int a2)]
def lMo_run_80 (a1 : Int32) (a2 : Int32) : List Slot := [.val (.ref 193), .val (.int a1), .val (.int a2)]
def lMo_run_83 (a1 : Int32) (a2 : Int32) : List Slot := [.val (.ref 193), .val (.int a1), .val (.int a2)]
def lMo_run_86 (a1 : Int32) (a2 : Int32) : List Slot := [.val (.ref 193), .val (.int a1), .val (.int a2)]
def lMo_run_104 (a1 : Int32) (a2 : Int32) : List Slot := [.val (.ref 193), .val (.int a1), .val (.int a2)]
theorem bMo_run_0 {a1 : Int32} (hX : X.length = 13) (k1 : (a1 < 0) → QW d mMo_run 13 (lMo_run_13 a1) [.ref 193] (hpo X mem sw o e) P) (k2 : (¬ a1 < 0) → (a1 < (mem 193 13)) → QW d mMo_run 18 (lMo_run_18 a1) [.int 0, .ref 193] (hpo X mem sw o e) P) (k3 : (¬ a1 < 0) → (¬ a1 < (mem 193 13)) → QW d mMo_run 13 (lMo_run_13 a1) [.ref 193] (hpo X mem sw o e) P) : QW d mMo_run 0 (qen 3 [.ref 193, .int a1]) [] (hpo X mem sw o e) P := by
  show QW d mMo_run 0 [.val (.ref 193), .val (.int a1), .unset] [] (hpo X mem sw o e) P
  refine QW.aload_n dMo_run_0 rfl rfl ?_
  refine QW.iload_n dMo_run_1 rfl rfl ?_
  refine QW.if_lt (tgt := 13) dMo_run_2 (by decide) (fun z0 => ?_) (fun z0 => ?_)
  · exact (k1 z0)
  · refine QW.iload_n dMo_run_5 rfl rfl ?_
    refine QW.aload_n dMo_run_6 rfl rfl ?_
    refine MW.geti hX dMo_run_7 fMo_202 rfl rfl ?_
    refine QW.icmp_lt (tgt := 17) dMo_run_10 (by decide) (fun z1 => ?_) (fun z1 => ?_)
    · refine QW.iconst (v := 0) dMo_run_17 (by decide) ?_
      exact (k2 z0 z1)
    · exact (k3 z0 z1)
theorem bMo_run_13 {a1 : Int32} (hX : X.length = 13) (k1 : QW d mMo_run 18 (lMo_run_18 a1) [.int 1, .ref 193] (hpo X mem sw o e) P) : QW d mMo_run 13 (lMo_run_13 a1) [.ref 193] (hpo X mem sw o e) P := by
  show QW d mMo_run 13 [.val (.ref 193), .val (.int a1), .unset] [.ref 193] (hpo X mem sw o e) P
  refine QW.iconst (v := 1) dMo_run_13 (by decide) ?_
  refine QW.goto (tgt := 18) dMo_run_14 (by decide) ?_
  exact k1
theorem bMo_run_18 {a1 : Int32} {s1 : Int32} (hX : X.length = 13) (k1 : (((mup mem 193 0 s1) 193 0) ≤ 0) → QW d mMo_run 37 (lMo_run_37 a1 0) [] (hpo X (mup (mup mem 193 0 s1) 193 29 0) sw o e) P) (k2 : (¬ ((mup mem 193 0 s1) 193 0) ≤ 0) → P (.inl (some (.int 0)), (hpo X (mup mem 193 0 s1) sw o e))) : QW d mMo_run 18 (lMo_run_18 a1) [.int s1, .ref 193] (hpo X mem sw o e) P := by
  show QW d mMo_run 18 [.val (.ref 193), .val (.int a1), .unset] [.int s1, .ref 193] (hpo X mem sw o e) P
  refine MW.puti hX dMo_run_18 fMo_106 rfl rfl rfl ?_
  refine QW.aload_n dMo_run_21 rfl rfl ?_
  refine MW.geti hX dMo_run_22 fMo_106 rfl rfl ?_
  refine QW.if_le (tgt := 30) dMo_run_25 (by decide) (fun z0 => ?_) (fun z0 => ?_)
  · refine QW.aload_n dMo_run_30 rfl rfl ?_
    refine QW.iconst (v := 0) dMo_run_31 (by decide) ?_
    refine MW.puti hX dMo_run_32 fMo_221 rfl rfl rfl ?_
    refine QW.iconst (v := 0) dMo_run_35 (by decide) ?_
    refine QW.istore_n (ls' := [.val (.ref 193), .val (.int a1), .val (.int 0)]) dMo_run_36 rfl rfl ?_
    exact (k1 z0)
  · refine QW.iconst (v := 0) dMo_run_28 (by decide) ?_
    exact QW.iret dMo_run_29 rfl rfl (k2 z0)
theorem bMo_run_37 {a1 : Int32} {a2 : Int32} (hX : X.length = 13) (h1 : inx a1 5) (k2 : ((mem 199 (Int32.toNatClampNeg a1)) ≤ a2) → QW d mMo_settle 0 (qen 5 [.ref 193, .int a1]) [] (hpo X mem sw o e) (qcl d mMo_run 101 104 (lMo_run_104 a1 a2) [] P)) (k3 : (¬ (mem 199 (Int32.toNatClampNeg a1)) ≤ a2) → QW d mMo_take 0 (qen 6 [.ref 193, .int ((3 * a1) + a2)]) [] (hpo X mem sw o e) (qcl d mMo_run 53 56 (lMo_run_56 a1 a2) [] P)) : QW (d + 1) mMo_run 37 (lMo_run_37 a1 a2) [] (hpo X mem sw o e) P := by
  show QW (d + 1) mMo_run 37 [.val (.ref 193), .val (.int a1), .val (.int a2)] [] (hpo X mem sw o e) P
  refine QW.iload_n dMo_run_37 rfl rfl ?_
  refine QW.aload_n dMo_run_38 rfl rfl ?_
  refine MW.getr (r' := 199) hX dMo_run_39 fMo_31 rfl rfl (by cases sw <;> rfl) ?_
  refine QW.iload_n dMo_run_42 rfl rfl ?_
  refine MW.iald hX dMo_run_43 rfl h1.1 (rep_get h1.2) ?_
  refine QW.icmp_ge (tgt := 99) dMo_run_44 (by decide) (fun z0 => ?_) (fun z0 => ?_)
  · refine QW.aload_n dMo_run_99 rfl rfl ?_
    refine QW.iload_n dMo_run_100 rfl rfl ?_
    exact MW.calV (as := [.int a1]) (rest := []) hX dMo_run_101 eMo_settle lMo_246 iMo_settle vMo_settle rfl rfl rfl rfl rfl rfl (Nat.le_of_ble_eq_true rfl) rfl (k2 z0)
  · refine QW.aload_n dMo_run_47 rfl rfl ?_
    refine QW.iconst (v := 3) dMo_run_48 (by decide) ?_
    refine QW.iload_n dMo_run_49 rfl rfl ?_
    refine QW.imul dMo_run_50 ?_
    refine QW.iload_n dMo_run_51 rfl rfl ?_
    refine QW.iadd dMo_run_52 ?_
    exact MW.calV (as := [.int ((3 * a1) + a2)]) (rest := []) hX dMo_run_53 eMo_take lMo_240 iMo_take vMo_take rfl rfl rfl rfl rfl rfl (Nat.le_of_ble_eq_true rfl) rfl (k3 z0)
theorem bMo_run_56 {a1 : Int32} {a2 : Int32} {s0 : Int32} (hX : X.length = 13) (k1 : (s0 = 0) → QW d mMo_run 86 (lMo_run_86 a1 a2) [] (hpo X mem sw o e) P) (h2 : (¬ s0 = 0) → (¬ a2 = 0) → inx (((2 * a1) + a2) - 1) 10) (k3 : (¬ s0 = 0) → (¬ a2 = 0) → QW d mMo_run 80 (lMo_run_80 a1 a2) [.int (mem 200 (Int32.toNatClampNeg (((2 * a1) + a2) - 1))), .ref 193] (hpo X mem sw o e) P) (k4 : (¬ s0 = 0) → (a2 = 0) → QW d mMo_run 80 (lMo_run_80 a1 a2) [.int 0, .ref 193] (hpo X mem sw o e) P) : QW d mMo_run 56 (lMo_run_56 a1 a2) [.int s0] (hpo X mem sw o e) P := by
  show QW d mMo_run 56 [.val (.ref 193), .val (.int a1), .val (.int a2)] [.int s0] (hpo X mem sw o e) P
  refine QW.if_eq (tgt := 86) dMo_run_56 (by decide) (fun z0 => ?_) (fun z0 => ?_)
  · exact (k1 z0)
  · refine QW.aload_n dMo_run_59 rfl rfl ?_
    refine QW.iload_n dMo_run_60 rfl rfl ?_
    refine QW.if_ne (tgt := 68) dMo_run_61 (by decide) (fun z1 => ?_) (fun z1 => ?_)
    · refine QW.aload_n dMo_run_68 rfl rfl ?_
      refine MW.getr (r' := 200) hX dMo_run_69 fMo_34 rfl rfl (by cases sw <;> rfl) ?_
      refine QW.iconst (v := 2) dMo_run_72 (by decide) ?_
      refine QW.iload_n dMo_run_73 rfl rfl ?_
      refine QW.imul dMo_run_74 ?_
      refine QW.iload_n dMo_run_75 rfl rfl ?_
      refine QW.iadd dMo_run_76 ?_
      refine QW.iconst (v := 1) dMo_run_77 (by decide) ?_
      refine QW.isub dMo_run_78 ?_
      refine MW.iald hX dMo_run_79 rfl (h2 z0 z1).1 (rep_get (h2 z0 z1).2) ?_
      exact (k3 z0 z1)
    · refine QW.iconst (v := 0) dMo_run_64 (by decide) ?_
      refine QW.goto (tgt := 80) dMo_run_65 (by decide) ?_
      exact (k4 z0 z1)
theorem bMo_run_80 {a1 : Int32} {a2 : Int32} {s1 : Int32} (hX : X.length = 13) (k1 : QW d mMo_merge 0 (qen 8 [.ref 193, .int s1]) [] (hpo X mem sw o e) (qcl d mMo_run 80 83 (lMo_run_83 a1 a2) [] P)) : QW (d + 1) mMo_run 80 (lMo_run_80 a1 a2) [.int s1, .ref 193] (hpo X mem sw o e) P := by
  show QW (d + 1) mMo_run 80 [.val (.ref 193), .val (.int a1), .val (.int a2)] [.int s1, .ref 193] (hpo X mem sw o e) P
  exact MW.calV (as := [.int s1]) (rest := []) hX dMo_run_80 eMo_merge lMo_243 iMo_merge vMo_merge rfl rfl rfl rfl rfl rfl (Nat.le_of_ble_eq_true rfl) rfl k1
theorem bMo_run_83 {a1 : Int32} {a2 : Int32} {s0 : Int32} (hX : X.length = 13) (k1 : (¬ s0 = 0) → QW d mMo_run 37 (lMo_run_37 a1 (a2 + 1)) [] (hpo X mem sw o e) P) (k2 : (s0 = 0) → QW d mMo_run 86 (lMo_run_86 a1 a2) [] (hpo X mem sw o e) P) : QW d mMo_run 83 (lMo_run_83 a1 a2) [.int s0] (hpo X mem sw o e) P := by
  show QW d mMo_run 83 [.val (.ref 193), .val (.int a1), .val (.int a2)] [.int s0] (hpo X mem sw o e) P
  refine QW.if_ne (tgt := 93) dMo_run_83 (by decide) (fun z0 => ?_) (fun z0 => ?_)
  · refine MW.iinc (c := 1) (ls' := [.val (.ref 193), .val (.int a1), .val (.int (a2 + 1))]) dMo_run_93 (by decide) rfl rfl ?_
    refine QW.goto (tgt := 37) dMo_run_96 (by decide) ?_
    exact (k1 z0)
  · exact (k2 z0)
theorem bMo_run_86 {a1 : Int32} {a2 : Int32} (hX : X.length = 13) (k1 : P (.inl (some (.int 0)), (hpo X (mup mem 193 0 2) sw o e))) : QW d mMo_run 86 (lMo_run_86 a1 a2) [] (hpo X mem sw o e) P := by
  show QW d mMo_run 86 [.val (.ref 193), .val (.int a1), .val (.int a2)] [] (hpo X mem sw o e) P
  refine QW.aload_n dMo_run_86 rfl rfl ?_
  refine QW.iconst (v := 2) dMo_run_87 (by decide) ?_
  refine MW.puti hX dMo_run_88 fMo_106 rfl rfl rfl ?_
  refine QW.iconst (v := 0) dMo_run_91 (by decide) ?_
  exact QW.iret dMo_run_92 rfl rfl k1
theorem bMo_run_104 {a1 : Int32} {a2 : Int32} (hX : X.length = 13) (k1 : P (.inl (some (.int (mem 193 33))), (hpo X mem sw o e))) : QW d mMo_run 104 (lMo_run_104 a1 a2) [] (hpo X mem sw o e) P := by
  show QW d mMo_run 104 [.val (.ref 193), .val (.int a1), .val (.int a2)] [] (hpo X mem sw o e) P
  refine QW.aload_n dMo_run_104 rfl rfl ?_
  refine MW.geti hX dMo_run_105 fMo_234 rfl rfl ?_
  exact QW.iret dMo_run_108 rfl rfl k1
theorem dMo_row_0 : decode mMo_row.2.1 0 = .ok (.aload_n 0, 1) := by decide +kernel
theorem dMo_row_1 : decode mMo_row.2.1 1 = .ok (.iload_n 1, 1) := by decide +kernel
theorem dMo_row_2 : decode mMo_row.2.1 2 = .ok (.ifCond .lt 23, 3) := by decide +kernel
theorem dMo_row_5 : decode mMo_row.2.1 5 = .ok (.iload_n 1, 1) := by decide +kernel
theorem dMo_row_6 : decode mMo_row.2.1 6 = .ok (.aload_n 0, 1) := by decide +kernel
theorem dMo_row_7 : decode mMo_row.2.1 7 = .ok (.getfield 234, 3) := by decide +kernel
theorem dMo_row_10 : decode mMo_row.2.1 10 = .ok (.if_icmp .ge 15, 3) := by decide +kernel
theorem dMo_row_13 : decode mMo_row.2.1 13 = .ok (.iload_n 2, 1) := by decide +kernel
theorem dMo_row_14 : decode mMo_row.2.1 14 = .ok (.ifCond .lt 11, 3) := by decide +kernel
theorem dMo_row_17 : decode mMo_row.2.1 17 = .ok (.iload_n 2, 1) := by decide +kernel
theorem dMo_row_18 : decode mMo_row.2.1 18 = .ok (.aload_n 0, 1) := by decide +kernel
theorem dMo_row_19 : decode mMo_row.2.1 19 = .ok (.getfield 237, 3) := by decide +kernel
theorem dMo_row_22 : decode mMo_row.2.1 22 = .ok (.if_icmp .lt 7, 3) := by decide +kernel
theorem dMo_row_25 : decode mMo_row.2.1 25 = .ok (.iconst 1, 1) := by decide +kernel
theorem dMo_row_26 : decode mMo_row.2.1 26 = .ok (.goto 4, 3) := by decide +kernel
theorem dMo_row_29 : decode mMo_row.2.1 29 = .ok (.iconst 0, 1) := by decide +kernel
theorem dMo_row_30 : decode mMo_row.2.1 30 = .ok (.putfield 106, 3) := by decide +kernel
theorem dMo_row_33 : decode mMo_row.2.1 33 = .ok (.aload_n 0, 1) := by decide +kernel
theorem dMo_row_34 : decode mMo_row.2.1 34 = .ok (.getfield 106, 3) := by decide +kernel
theorem dMo_row_37 : decode mMo_row.2.1 37 = .ok (.ifCond .le 7, 3) := by decide +kernel
theorem dMo_row_40 : decode mMo_row.2.1 40 = .ok (.iconst 0, 1) := by decide +kernel
theorem dMo_row_41 : decode mMo_row.2.1 41 = .ok (.goto 13, 3) := by decide +kernel
theorem dMo_row_44 : decode mMo_row.2.1 44 = .ok (.aload_n 0, 1) := by decide +kernel
theorem dMo_row_45 : decode mMo_row.2.1 45 = .ok (.getfield 79, 3) := by decide +kernel
theorem dMo_row_48 : decode mMo_row.2.1 48 = .ok (.iconst 3, 1) := by decide +kernel
theorem dMo_row_49 : decode mMo_row.2.1 49 = .ok (.iload_n 1, 1) := by decide +kernel
theorem dMo_row_50 : decode mMo_row.2.1 50 = .ok (.imul, 1) := by decide +kernel
theorem dMo_row_51 : decode mMo_row.2.1 51 = .ok (.iload_n 2, 1) := by decide +kernel
theorem dMo_row_52 : decode mMo_row.2.1 52 = .ok (.iadd, 1) := by decide +kernel
theorem dMo_row_53 : decode mMo_row.2.1 53 = .ok (.iaload, 1) := by decide +kernel
theorem dMo_row_54 : decode mMo_row.2.1 54 = .ok (.ireturn, 1) := by decide +kernel
def lMo_row_25 (a1 : Int32) (a2 : Int32) : List Slot := [.val (.ref 193), .val (.int a1), .val (.int a2)]
def lMo_row_30 (a1 : Int32) (a2 : Int32) : List Slot := [.val (.ref 193), .val (.int a1), .val (.int a2)]
theorem bMo_row_0 {a1 : Int32} {a2 : Int32} (hX : X.length = 13) (k1 : (a1 < 0) → QW d mMo_row 25 (lMo_row_25 a1 a2) [.ref 193] (hpo X mem sw o e) P) (k2 : (¬ a1 < 0) → ((mem 193 33) ≤ a1) → QW d mMo_row 25 (lMo_row_25 a1 a2) [.ref 193] (hpo X mem sw o e) P) (k3 : (¬ a1 < 0) → (¬ (mem 193 33) ≤ a1) → (a2 < 0) → QW d mMo_row 25 (lMo_row_25 a1 a2) [.ref 193] (hpo X mem sw o e) P) (k4 : (¬ a1 < 0) → (¬ (mem 193 33) ≤ a1) → (¬ a2 < 0) → (a2 < (mem 193 34)) → QW d mMo_row 30 (lMo_row_30 a1 a2) [.int 0, .ref 193] (hpo X mem sw o e) P) (k5 : (¬ a1 < 0) → (¬ (mem 193 33) ≤ a1) → (¬ a2 < 0) → (¬ a2 < (mem 193 34)) → QW d mMo_row 25 (lMo_row_25 a1 a2) [.ref 193] (hpo X mem sw o e) P) : QW d mMo_row 0 (qen 3 [.ref 193, .int a1, .int a2]) [] (hpo X mem sw o e) P := by
  show QW d mMo_row 0 [.val (.ref 193), .val (.int a1), .val (.int a2)] [] (hpo X mem sw o e) P
  refine QW.aload_n dMo_row_0 rfl rfl ?_
  refine QW.iload_n dMo_row_1 rfl rfl ?_
  refine QW.if_lt (tgt := 25) dMo_row_2 (by decide) (fun z0 => ?_) (fun z0 => ?_)
  · exact (k1 z0)
  · refine QW.iload_n dMo_row_5 rfl rfl ?_
    refine QW.aload_n dMo_row_6 rfl rfl ?_
    refine MW.geti hX dMo_row_7 fMo_234 rfl rfl ?_
    refine QW.icmp_ge (tgt := 25) dMo_row_10 (by decide) (fun z1 => ?_) (fun z1 => ?_)
    · exact (k2 z0 z1)
    · refine QW.iload_n dMo_row_13 rfl rfl ?_
      refine QW.if_lt (tgt := 25) dMo_row_14 (by decide) (fun z2 => ?_) (fun z2 => ?_)
      · exact (k3 z0 z1 z2)
      · refine QW.iload_n dMo_row_17 rfl rfl ?_
        refine QW.aload_n dMo_row_18 rfl rfl ?_
        refine MW.geti hX dMo_row_19 fMo_237 rfl rfl ?_
        refine QW.icmp_lt (tgt := 29) dMo_row_22 (by decide) (fun z3 => ?_) (fun z3 => ?_)
        · refine QW.iconst (v := 0) dMo_row_29 (by decide) ?_
          exact (k4 z0 z1 z2 z3)
        · exact (k5 z0 z1 z2 z3)
theorem bMo_row_25 {a1 : Int32} {a2 : Int32} (hX : X.length = 13) (k1 : QW d mMo_row 30 (lMo_row_30 a1 a2) [.int 1, .ref 193] (hpo X mem sw o e) P) : QW d mMo_row 25 (lMo_row_25 a1 a2) [.ref 193] (hpo X mem sw o e) P := by
  show QW d mMo_row 25 [.val (.ref 193), .val (.int a1), .val (.int a2)] [.ref 193] (hpo X mem sw o e) P
  refine QW.iconst (v := 1) dMo_row_25 (by decide) ?_
  refine QW.goto (tgt := 30) dMo_row_26 (by decide) ?_
  exact k1
theorem bMo_row_30 {a1 : Int32} {a2 : Int32} {s1 : Int32} (hX : X.length = 13) (h1 : (((mup mem 193 0 s1) 193 0) ≤ 0) → inx ((3 * a1) + a2) 192) (k2 : (((mup mem 193 0 s1) 193 0) ≤ 0) → P (.inl (some (.int ((mup mem 193 0 s1) 215 (Int32.toNatClampNeg ((3 * a1) + a2))))), (hpo X (mup mem 193 0 s1) sw o e))) (k3 : (¬ ((mup mem 193 0 s1) 193 0) ≤ 0) → P (.inl (some (.int 0)), (hpo X (mup mem 193 0 s1) sw o e))) : QW d mMo_row 30 (lMo_row_30 a1 a2) [.int s1, .ref 193] (hpo X mem sw o e) P := by
  show QW d mMo_row 30 [.val (.ref 193), .val (.int a1), .val (.int a2)] [.int s1, .ref 193] (hpo X mem sw o e) P
  refine MW.puti hX dMo_row_30 fMo_106 rfl rfl rfl ?_
  refine QW.aload_n dMo_row_33 rfl rfl ?_
  refine MW.geti hX dMo_row_34 fMo_106 rfl rfl ?_
  refine QW.if_le (tgt := 44) dMo_row_37 (by decide) (fun z0 => ?_) (fun z0 => ?_)
  · refine QW.aload_n dMo_row_44 rfl rfl ?_
    refine MW.getr (r' := 215) hX dMo_row_45 fMo_79 rfl rfl (by cases sw <;> rfl) ?_
    refine QW.iconst (v := 3) dMo_row_48 (by decide) ?_
    refine QW.iload_n dMo_row_49 rfl rfl ?_
    refine QW.imul dMo_row_50 ?_
    refine QW.iload_n dMo_row_51 rfl rfl ?_
    refine QW.iadd dMo_row_52 ?_
    refine MW.iald hX dMo_row_53 rfl (h1 z0).1 (rep_get (h1 z0).2) ?_
    exact QW.iret dMo_row_54 rfl rfl (k2 z0)
  · refine QW.iconst (v := 0) dMo_row_40 (by decide) ?_
    refine QW.goto (tgt := 54) dMo_row_41 (by decide) ?_
    exact QW.iret dMo_row_54 rfl rfl (k3 z0)
theorem dMo_times_0 : decode mMo_times.2.1 0 = .ok (.aload_n 0, 1) := by decide +kernel
theorem dMo_times_1 : decode mMo_times.2.1 1 = .ok (.iload_n 1, 1) := by decide +kernel
theorem dMo_times_2 : decode mMo_times.2.1 2 = .ok (.ifCond .lt 11, 3) := by decide +kernel
theorem dMo_times_5 : decode mMo_times.2.1 5 = .ok (.iload_n 1, 1) := by decide +kernel
theorem dMo_times_6 : decode mMo_times.2.1 6 = .ok (.aload_n 0, 1) := by decide +kernel
theorem dMo_times_7 : decode mMo_times.2.1 7 = .ok (.getfield 234, 3) := by decide +kernel
theorem dMo_times_10 : decode mMo_times.2.1 10 = .ok (.if_icmp .lt 7, 3) := by decide +kernel
theorem dMo_times_13 : decode mMo_times.2.1 13 = .ok (.iconst 1, 1) := by decide +kernel
theorem dMo_times_14 : decode mMo_times.2.1 14 = .ok (.goto 4, 3) := by decide +kernel
theorem dMo_times_17 : decode mMo_times.2.1 17 = .ok (.iconst 0, 1) := by decide +kernel
theorem dMo_times_18 : decode mMo_times.2.1 18 = .ok (.putfield 106, 3) := by decide +kernel
theorem dMo_times_21 : decode mMo_times.2.1 21 = .ok (.aload_n 0, 1) := by decide +kernel
theorem dMo_times_22 : decode mMo_times.2.1 22 = .ok (.getfield 106, 3) := by decide +kernel
theorem dMo_times_25 : decode mMo_times.2.1 25 = .ok (.ifCond .le 7, 3) := by decide +kernel
theorem dMo_times_28 : decode mMo_times.2.1 28 = .ok (.iconst 0, 1) := by decide +kernel
theorem dMo_times_29 : decode mMo_times.2.1 29 = .ok (.goto 9, 3) := by decide +kernel
theorem dMo_times_32 : decode mMo_times.2.1 32 = .ok (.aload_n 0, 1) := by decide +kernel
theorem dMo_times_33 : decode mMo_times.2.1 33 = .ok (.getfield 82, 3) := by decide +kernel
theorem dMo_times_36 : decode mMo_times.2.1 36 = .ok (.iload_n 1, 1) := by decide +kernel
theorem dMo_times_37 : decode mMo_times.2.1 37 = .ok (.iaload, 1) := by decide +kernel
theorem dMo_times_38 : decode mMo_times.2.1 38 = .ok (.ireturn, 1) := by decide +kernel
def lMo_times_13 (a1 : Int32) : List Slot := [.val (.ref 193), .val (.int a1)]
def lMo_times_18 (a1 : Int32) : List Slot := [.val (.ref 193), .val (.int a1)]
theorem bMo_times_0 {a1 : Int32} (hX : X.length = 13) (k1 : (a1 < 0) → QW d mMo_times 13 (lMo_times_13 a1) [.ref 193] (hpo X mem sw o e) P) (k2 : (¬ a1 < 0) → (a1 < (mem 193 33)) → QW d mMo_times 18 (lMo_times_18 a1) [.int 0, .ref 193] (hpo X mem sw o e) P) (k3 : (¬ a1 < 0) → (¬ a1 < (mem 193 33)) → QW d mMo_times 13 (lMo_times_13 a1) [.ref 193] (hpo X mem sw o e) P) : QW d mMo_times 0 (qen 2 [.ref 193, .int a1]) [] (hpo X mem sw o e) P := by
  show QW d mMo_times 0 [.val (.ref 193), .val (.int a1)] [] (hpo X mem sw o e) P
  refine QW.aload_n dMo_times_0 rfl rfl ?_
  refine QW.iload_n dMo_times_1 rfl rfl ?_
  refine QW.if_lt (tgt := 13) dMo_times_2 (by decide) (fun z0 => ?_) (fun z0 => ?_)
  · exact (k1 z0)
  · refine QW.iload_n dMo_times_5 rfl rfl ?_
    refine QW.aload_n dMo_times_6 rfl rfl ?_
    refine MW.geti hX dMo_times_7 fMo_234 rfl rfl ?_
    refine QW.icmp_lt (tgt := 17) dMo_times_10 (by decide) (fun z1 => ?_) (fun z1 => ?_)
    · refine QW.iconst (v := 0) dMo_times_17 (by decide) ?_
      exact (k2 z0 z1)
    · exact (k3 z0 z1)
theorem bMo_times_13 {a1 : Int32} (hX : X.length = 13) (k1 : QW d mMo_times 18 (lMo_times_18 a1) [.int 1, .ref 193] (hpo X mem sw o e) P) : QW d mMo_times 13 (lMo_times_13 a1) [.ref 193] (hpo X mem sw o e) P := by
  show QW d mMo_times 13 [.val (.ref 193), .val (.int a1)] [.ref 193] (hpo X mem sw o e) P
  refine QW.iconst (v := 1) dMo_times_13 (by decide) ?_
  refine QW.goto (tgt := 18) dMo_times_14 (by decide) ?_
  exact k1
theorem bMo_times_18 {a1 : Int32} {s1 : Int32} (hX : X.length = 13) (h1 : (((mup mem 193 0 s1) 193 0) ≤ 0) → inx a1 64) (k2 : (((mup mem 193 0 s1) 193 0) ≤ 0) → P (.inl (some (.int ((mup mem 193 0 s1) 216 (Int32.toNatClampNeg a1)))), (hpo X (mup mem 193 0 s1) sw o e))) (k3 : (¬ ((mup mem 193 0 s1) 193 0) ≤ 0) → P (.inl (some (.int 0)), (hpo X (mup mem 193 0 s1) sw o e))) : QW d mMo_times 18 (lMo_times_18 a1) [.int s1, .ref 193] (hpo X mem sw o e) P := by
  show QW d mMo_times 18 [.val (.ref 193), .val (.int a1)] [.int s1, .ref 193] (hpo X mem sw o e) P
  refine MW.puti hX dMo_times_18 fMo_106 rfl rfl rfl ?_
  refine QW.aload_n dMo_times_21 rfl rfl ?_
  refine MW.geti hX dMo_times_22 fMo_106 rfl rfl ?_
  refine QW.if_le (tgt := 32) dMo_times_25 (by decide) (fun z0 => ?_) (fun z0 => ?_)
  · refine QW.aload_n dMo_times_32 rfl rfl ?_
    refine MW.getr (r' := 216) hX dMo_times_33 fMo_82 rfl rfl (by cases sw <;> rfl) ?_
    refine QW.iload_n dMo_times_36 rfl rfl ?_
    refine MW.iald hX dMo_times_37 rfl (h1 z0).1 (rep_get (h1 z0).2) ?_
    exact QW.iret dMo_times_38 rfl rfl (k2 z0)
  · refine QW.iconst (v := 0) dMo_times_28 (by decide) ?_
    refine QW.goto (tgt := 38) dMo_times_29 (by decide) ?_
    exact QW.iret dMo_times_38 rfl rfl (k3 z0)
theorem dMo_total_0 : decode mMo_total.2.1 0 = .ok (.aload_n 0, 1) := by decide +kernel
theorem dMo_total_1 : decode mMo_total.2.1 1 = .ok (.iconst 0, 1) := by decide +kernel
theorem dMo_total_2 : decode mMo_total.2.1 2 = .ok (.putfield 106, 3) := by decide +kernel
theorem dMo_total_5 : decode mMo_total.2.1 5 = .ok (.iconst 0, 1) := by decide +kernel
theorem dMo_total_6 : decode mMo_total.2.1 6 = .ok (.istore_n 1, 1) := by decide +kernel
theorem dMo_total_7 : decode mMo_total.2.1 7 = .ok (.iconst 0, 1) := by decide +kernel
theorem dMo_total_8 : decode mMo_total.2.1 8 = .ok (.istore_n 2, 1) := by decide +kernel
theorem dMo_total_9 : decode mMo_total.2.1 9 = .ok (.iload_n 2, 1) := by decide +kernel
theorem dMo_total_10 : decode mMo_total.2.1 10 = .ok (.aload_n 0, 1) := by decide +kernel
theorem dMo_total_11 : decode mMo_total.2.1 11 = .ok (.getfield 234, 3) := by decide +kernel
theorem dMo_total_14 : decode mMo_total.2.1 14 = .ok (.if_icmp .ge 18, 3) := by decide +kernel
theorem dMo_total_17 : decode mMo_total.2.1 17 = .ok (.iload_n 1, 1) := by decide +kernel
theorem dMo_total_18 : decode mMo_total.2.1 18 = .ok (.aload_n 0, 1) := by decide +kernel
theorem dMo_total_19 : decode mMo_total.2.1 19 = .ok (.getfield 82, 3) := by decide +kernel
theorem dMo_total_22 : decode mMo_total.2.1 22 = .ok (.iload_n 2, 1) := by decide +kernel
theorem dMo_total_23 : decode mMo_total.2.1 23 = .ok (.iaload, 1) := by decide +kernel
theorem dMo_total_24 : decode mMo_total.2.1 24 = .ok (.iadd, 1) := by decide +kernel
theorem dMo_total_25 : decode mMo_total.2.1 25 = .ok (.istore_n 1, 1) := by decide +kernel
theorem dMo_total_26 : decode mMo_total.2.1 26 = .ok (.iinc 2 1, 3) := by decide +kernel
theorem dMo_total_29 : decode mMo_total.2.1 29 = .ok (.goto (-20), 3) := by decide +kernel
theorem dMo_total_32 : decode mMo_total.2.1 32 = .ok (.iload_n 1, 1) := by decide +kernel
theorem dMo_total_33 : decode mMo_total.2.1 33 = .ok (.ireturn, 1) := by decide +kernel
def lMo_total_9 (a1 : Int32) (a2 : Int32) : List Slot := [.val (.ref 193), .val (.int a1), .val (.int a2)]
theorem bMo_total_0 (hX : X.length = 13) (k1 : QW d mMo_total 9 (lMo_total_9 0 0) [] (hpo X (mup mem 193 0 0) sw o e) P) : QW d mMo_total 0 (qen 3 [.ref 193]) [] (hpo X mem sw o e) P := by
  show QW d mMo_total 0 [.val (.ref 193), .unset, .unset] [] (hpo X mem sw o e) P
  refine QW.aload_n dMo_total_0 rfl rfl ?_
  refine QW.iconst (v := 0) dMo_total_1 (by decide) ?_
  refine MW.puti hX dMo_total_2 fMo_106 rfl rfl rfl ?_
  refine QW.iconst (v := 0) dMo_total_5 (by decide) ?_
  refine QW.istore_n (ls' := [.val (.ref 193), .val (.int 0), .unset]) dMo_total_6 rfl rfl ?_
  refine QW.iconst (v := 0) dMo_total_7 (by decide) ?_
  refine QW.istore_n (ls' := [.val (.ref 193), .val (.int 0), .val (.int 0)]) dMo_total_8 rfl rfl ?_
  exact k1
theorem bMo_total_9 {a1 : Int32} {a2 : Int32} (hX : X.length = 13) (k1 : ((mem 193 33) ≤ a2) → P (.inl (some (.int a1)), (hpo X mem sw o e))) (h2 : (¬ (mem 193 33) ≤ a2) → inx a2 64) (k3 : (¬ (mem 193 33) ≤ a2) → QW d mMo_total 9 (lMo_total_9 (a1 + (mem 216 (Int32.toNatClampNeg a2))) (a2 + 1)) [] (hpo X mem sw o e) P) : QW d mMo_total 9 (lMo_total_9 a1 a2) [] (hpo X mem sw o e) P := by
  show QW d mMo_total 9 [.val (.ref 193), .val (.int a1), .val (.int a2)] [] (hpo X mem sw o e) P
  refine QW.iload_n dMo_total_9 rfl rfl ?_
  refine QW.aload_n dMo_total_10 rfl rfl ?_
  refine MW.geti hX dMo_total_11 fMo_234 rfl rfl ?_
  refine QW.icmp_ge (tgt := 32) dMo_total_14 (by decide) (fun z0 => ?_) (fun z0 => ?_)
  · refine QW.iload_n dMo_total_32 rfl rfl ?_
    exact QW.iret dMo_total_33 rfl rfl (k1 z0)
  · refine QW.iload_n dMo_total_17 rfl rfl ?_
    refine QW.aload_n dMo_total_18 rfl rfl ?_
    refine MW.getr (r' := 216) hX dMo_total_19 fMo_82 rfl rfl (by cases sw <;> rfl) ?_
    refine QW.iload_n dMo_total_22 rfl rfl ?_
    refine MW.iald hX dMo_total_23 rfl (h2 z0).1 (rep_get (h2 z0).2) ?_
    refine QW.iadd dMo_total_24 ?_
    refine QW.istore_n (ls' := [.val (.ref 193), .val (.int (a1 + (mem 216 (Int32.toNatClampNeg a2)))), .val (.int a2)]) dMo_total_25 rfl rfl ?_
    refine MW.iinc (c := 1) (ls' := [.val (.ref 193), .val (.int (a1 + (mem 216 (Int32.toNatClampNeg a2)))), .val (.int (a2 + 1))]) dMo_total_26 (by decide) rfl rfl ?_
    refine QW.goto (tgt := 9) dMo_total_29 (by decide) ?_
    exact (k3 z0)
theorem dMo_node_0 : decode mMo_node.2.1 0 = .ok (.iload_n 2, 1) := by decide +kernel
theorem dMo_node_1 : decode mMo_node.2.1 1 = .ok (.sipush 1000, 3) := by decide +kernel
theorem dMo_node_4 : decode mMo_node.2.1 4 = .ok (.if_icmp .ge 10, 3) := by decide +kernel
theorem dMo_node_7 : decode mMo_node.2.1 7 = .ok (.bipush 32, 2) := by decide +kernel
theorem dMo_node_9 : decode mMo_node.2.1 9 = .ok (.iload_n 1, 1) := by decide +kernel
theorem dMo_node_10 : decode mMo_node.2.1 10 = .ok (.imul, 1) := by decide +kernel
theorem dMo_node_11 : decode mMo_node.2.1 11 = .ok (.iload_n 2, 1) := by decide +kernel
theorem dMo_node_12 : decode mMo_node.2.1 12 = .ok (.iadd, 1) := by decide +kernel
theorem dMo_node_13 : decode mMo_node.2.1 13 = .ok (.ireturn, 1) := by decide +kernel
theorem dMo_node_14 : decode mMo_node.2.1 14 = .ok (.iconst 0, 1) := by decide +kernel
theorem dMo_node_15 : decode mMo_node.2.1 15 = .ok (.istore_n 3, 1) := by decide +kernel
theorem dMo_node_16 : decode mMo_node.2.1 16 = .ok (.iload_n 3, 1) := by decide +kernel
theorem dMo_node_17 : decode mMo_node.2.1 17 = .ok (.aload_n 0, 1) := by decide +kernel
theorem dMo_node_18 : decode mMo_node.2.1 18 = .ok (.getfield 97, 3) := by decide +kernel
theorem dMo_node_21 : decode mMo_node.2.1 21 = .ok (.iload_n 1, 1) := by decide +kernel
theorem dMo_node_22 : decode mMo_node.2.1 22 = .ok (.iaload, 1) := by decide +kernel
theorem dMo_node_23 : decode mMo_node.2.1 23 = .ok (.if_icmp .ge 41, 3) := by decide +kernel
theorem dMo_node_26 : decode mMo_node.2.1 26 = .ok (.aload_n 0, 1) := by decide +kernel
theorem dMo_node_27 : decode mMo_node.2.1 27 = .ok (.getfield 94, 3) := by decide +kernel
theorem dMo_node_30 : decode mMo_node.2.1 30 = .ok (.bipush 32, 2) := by decide +kernel
theorem dMo_node_32 : decode mMo_node.2.1 32 = .ok (.iload_n 1, 1) := by decide +kernel
theorem dMo_node_33 : decode mMo_node.2.1 33 = .ok (.imul, 1) := by decide +kernel
theorem dMo_node_34 : decode mMo_node.2.1 34 = .ok (.bipush 12, 2) := by decide +kernel
theorem dMo_node_36 : decode mMo_node.2.1 36 = .ok (.iadd, 1) := by decide +kernel
theorem dMo_node_37 : decode mMo_node.2.1 37 = .ok (.iload_n 3, 1) := by decide +kernel
theorem dMo_node_38 : decode mMo_node.2.1 38 = .ok (.iadd, 1) := by decide +kernel
theorem dMo_node_39 : decode mMo_node.2.1 39 = .ok (.iaload, 1) := by decide +kernel
theorem dMo_node_40 : decode mMo_node.2.1 40 = .ok (.iload_n 2, 1) := by decide +kernel
theorem dMo_node_41 : decode mMo_node.2.1 41 = .ok (.sipush 2000, 3) := by decide +kernel
theorem dMo_node_44 : decode mMo_node.2.1 44 = .ok (.isub, 1) := by decide +kernel
theorem dMo_node_45 : decode mMo_node.2.1 45 = .ok (.if_icmp .ne 13, 3) := by decide +kernel
theorem dMo_node_48 : decode mMo_node.2.1 48 = .ok (.bipush 32, 2) := by decide +kernel
theorem dMo_node_50 : decode mMo_node.2.1 50 = .ok (.iload_n 1, 1) := by decide +kernel
theorem dMo_node_51 : decode mMo_node.2.1 51 = .ok (.imul, 1) := by decide +kernel
theorem dMo_node_52 : decode mMo_node.2.1 52 = .ok (.bipush 12, 2) := by decide +kernel
theorem dMo_node_54 : decode mMo_node.2.1 54 = .ok (.iadd, 1) := by decide +kernel
theorem dMo_node_55 : decode mMo_node.2.1 55 = .ok (.iload_n 3, 1) := by decide +kernel
theorem dMo_node_56 : decode mMo_node.2.1 56 = .ok (.iadd, 1) := by decide +kernel
theorem dMo_node_57 : decode mMo_node.2.1 57 = .ok (.ireturn, 1) := by decide +kernel
theorem dMo_node_58 : decode mMo_node.2.1 58 = .ok (.iinc 3 1, 3) := by decide +kernel
theorem dMo_node_61 : decode mMo_node.2.1 61 = .ok (.goto (-45), 3) := by decide +kernel
theorem dMo_node_64 : decode mMo_node.2.1 64 = .ok (.bipush 32, 2) := by decide +kernel
theorem dMo_node_66 : decode mMo_node.2.1 66 = .ok (.iload_n 1, 1) := by decide +kernel
theorem dMo_node_67 : decode mMo_node.2.1 67 = .ok (.imul, 1) := by decide +kernel
theorem dMo_node_68 : decode mMo_node.2.1 68 = .ok (.bipush 12, 2) := by decide +kernel
theorem dMo_node_70 : decode mMo_node.2.1 70 = .ok (.iadd, 1) := by decide +kernel
theorem dMo_node_71 : decode mMo_node.2.1 71 = .ok (.aload_n 0, 1) := by decide +kernel
theorem dMo_node_72 : decode mMo_node.2.1 72 = .ok (.getfield 97, 3) := by decide +kernel
theorem dMo_node_75 : decode mMo_node.2.1 75 = .ok (.iload_n 1, 1) := by decide +kernel
theorem dMo_node_76 : decode mMo_node.2.1 76 = .ok (.iaload, 1) := by decide +kernel
theorem dMo_node_77 : decode mMo_node.2.1 77 = .ok (.iadd, 1) := by decide +kernel
theorem dMo_node_78 : decode mMo_node.2.1 78 = .ok (.istore_n 3, 1) := by decide +kernel
theorem dMo_node_79 : decode mMo_node.2.1 79 = .ok (.aload_n 0, 1) := by decide +kernel
theorem dMo_node_80 : decode mMo_node.2.1 80 = .ok (.getfield 94, 3) := by decide +kernel
theorem dMo_node_83 : decode mMo_node.2.1 83 = .ok (.iload_n 3, 1) := by decide +kernel
theorem dMo_node_84 : decode mMo_node.2.1 84 = .ok (.iload_n 2, 1) := by decide +kernel
theorem dMo_node_85 : decode mMo_node.2.1 85 = .ok (.sipush 2000, 3) := by decide +kernel
theorem dMo_node_88 : decode mMo_node.2.1 88 = .ok (.isub, 1) := by decide +kernel
theorem dMo_node_89 : decode mMo_node.2.1 89 = .ok (.iastore, 1) := by decide +kernel
theorem dMo_node_90 : decode mMo_node.2.1 90 = .ok (.aload_n 0, 1) := by decide +kernel
theorem dMo_node_91 : decode mMo_node.2.1 91 = .ok (.getfield 91, 3) := by decide +kernel
theorem dMo_node_94 : decode mMo_node.2.1 94 = .ok (.iload_n 3, 1) := by decide +kernel
theorem dMo_node_95 : decode mMo_node.2.1 95 = .ok (.iload_n 3, 1) := by decide +kernel
theorem dMo_node_96 : decode mMo_node.2.1 96 = .ok (.iastore, 1) := by decide +kernel
theorem dMo_node_97 : decode mMo_node.2.1 97 = .ok (.aload_n 0, 1) := by decide +kernel
theorem dMo_node_98 : decode mMo_node.2.1 98 = .ok (.getfield 97, 3) := by decide +kernel
theorem dMo_node_101 : decode mMo_node.2.1 101 = .ok (.iload_n 1, 1) := by decide +kernel
theorem dMo_node_102 : decode mMo_node.2.1 102 = .ok (.dup2, 1) := by decide +kernel
theorem dMo_node_103 : decode mMo_node.2.1 103 = .ok (.iaload, 1) := by decide +kernel
theorem dMo_node_104 : decode mMo_node.2.1 104 = .ok (.iconst 1, 1) := by decide +kernel
theorem dMo_node_105 : decode mMo_node.2.1 105 = .ok (.iadd, 1) := by decide +kernel
theorem dMo_node_106 : decode mMo_node.2.1 106 = .ok (.iastore, 1) := by decide +kernel
theorem dMo_node_107 : decode mMo_node.2.1 107 = .ok (.iload_n 3, 1) := by decide +kernel
theorem dMo_node_108 : decode mMo_node.2.1 108 = .ok (.ireturn, 1) := by decide +kernel
def lMo_node_16 (a1 : Int32) (a2 : Int32) (a3 : Int32) : List Slot := [.val (.ref 193), .val (.int a1), .val (.int a2), .val (.int a3)]
theorem bMo_node_0 {a1 : Int32} {a2 : Int32} (hX : X.length = 13) (k1 : (1000 ≤ a2) → QW d mMo_node 16 (lMo_node_16 a1 a2 0) [] (hpo X mem sw o e) P) (k2 : (¬ 1000 ≤ a2) → P (.inl (some (.int ((32 * a1) + a2))), (hpo X mem sw o e))) : QW d mMo_node 0 (qen 4 [.ref 193, .int a1, .int a2]) [] (hpo X mem sw o e) P := by
  show QW d mMo_node 0 [.val (.ref 193), .val (.int a1), .val (.int a2), .unset] [] (hpo X mem sw o e) P
  refine QW.iload_n dMo_node_0 rfl rfl ?_
  refine QW.sipush (v := 1000) dMo_node_1 (by decide) ?_
  refine QW.icmp_ge (tgt := 14) dMo_node_4 (by decide) (fun z0 => ?_) (fun z0 => ?_)
  · refine QW.iconst (v := 0) dMo_node_14 (by decide) ?_
    refine QW.istore_n (ls' := [.val (.ref 193), .val (.int a1), .val (.int a2), .val (.int 0)]) dMo_node_15 rfl rfl ?_
    exact (k1 z0)
  · refine QW.bipush (v := 32) dMo_node_7 (by decide) ?_
    refine QW.iload_n dMo_node_9 rfl rfl ?_
    refine QW.imul dMo_node_10 ?_
    refine QW.iload_n dMo_node_11 rfl rfl ?_
    refine QW.iadd dMo_node_12 ?_
    exact QW.iret dMo_node_13 rfl rfl (k2 z0)
theorem bMo_node_16 {a1 : Int32} {a2 : Int32} {a3 : Int32} (hX : X.length = 13) (h1 : inx a1 2) (h2 : ((mem 221 (Int32.toNatClampNeg a1)) ≤ a3) → inx a1 2) (h3 : ((mem 221 (Int32.toNatClampNeg a1)) ≤ a3) → inx (((32 * a1) + 12) + (mem 221 (Int32.toNatClampNeg a1))) 64) (h4 : ((mem 221 (Int32.toNatClampNeg a1)) ≤ a3) → inx (((32 * a1) + 12) + (mem 221 (Int32.toNatClampNeg a1))) 64) (h5 : ((mem 221 (Int32.toNatClampNeg a1)) ≤ a3) → inx a1 2) (h6 : ((mem 221 (Int32.toNatClampNeg a1)) ≤ a3) → inx a1 2) (k7 : ((mem 221 (Int32.toNatClampNeg a1)) ≤ a3) → P (.inl (some (.int (((32 * a1) + 12) + (mem 221 (Int32.toNatClampNeg a1))))), (hpo X (mup (mup (mup mem 220 (Int32.toNatClampNeg (((32 * a1) + 12) + (mem 221 (Int32.toNatClampNeg a1)))) (a2 - 2000)) 219 (Int32.toNatClampNeg (((32 * a1) + 12) + (mem 221 (Int32.toNatClampNeg a1)))) (((32 * a1) + 12) + (mem 221 (Int32.toNatClampNeg a1)))) 221 (Int32.toNatClampNeg a1) (((mup (mup mem 220 (Int32.toNatClampNeg (((32 * a1) + 12) + (mem 221 (Int32.toNatClampNeg a1)))) (a2 - 2000)) 219 (Int32.toNatClampNeg (((32 * a1) + 12) + (mem 221 (Int32.toNatClampNeg a1)))) (((32 * a1) + 12) + (mem 221 (Int32.toNatClampNeg a1)))) 221 (Int32.toNatClampNeg a1)) + 1)) sw o e))) (h8 : (¬ (mem 221 (Int32.toNatClampNeg a1)) ≤ a3) → inx (((32 * a1) + 12) + a3) 64) (k9 : (¬ (mem 221 (Int32.toNatClampNeg a1)) ≤ a3) → (¬ (mem 220 (Int32.toNatClampNeg (((32 * a1) + 12) + a3))) = (a2 - 2000)) → QW d mMo_node 16 (lMo_node_16 a1 a2 (a3 + 1)) [] (hpo X mem sw o e) P) (k10 : (¬ (mem 221 (Int32.toNatClampNeg a1)) ≤ a3) → ((mem 220 (Int32.toNatClampNeg (((32 * a1) + 12) + a3))) = (a2 - 2000)) → P (.inl (some (.int (((32 * a1) + 12) + a3))), (hpo X mem sw o e))) : QW d mMo_node 16 (lMo_node_16 a1 a2 a3) [] (hpo X mem sw o e) P := by
  show QW d mMo_node 16 [.val (.ref 193), .val (.int a1), .val (.int a2), .val (.int a3)] [] (hpo X mem sw o e) P
  refine QW.iload_n dMo_node_16 rfl rfl ?_
  refine QW.aload_n dMo_node_17 rfl rfl ?_
  refine MW.getr (r' := 221) hX dMo_node_18 fMo_97 rfl rfl (by cases sw <;> rfl) ?_
  refine QW.iload_n dMo_node_21 rfl rfl ?_
  refine MW.iald hX dMo_node_22 rfl h1.1 (rep_get h1.2) ?_
  refine QW.icmp_ge (tgt := 64) dMo_node_23 (by decide) (fun z0 => ?_) (fun z0 => ?_)
  · refine QW.bipush (v := 32) dMo_node_64 (by decide) ?_
    refine QW.iload_n dMo_node_66 rfl rfl ?_
    refine QW.imul dMo_node_67 ?_
    refine QW.bipush (v := 12) dMo_node_68 (by decide) ?_
    refine QW.iadd dMo_node_70 ?_
    refine QW.aload_n dMo_node_71 rfl rfl ?_
    refine MW.getr (r' := 221) hX dMo_node_72 fMo_97 rfl rfl (by cases sw <;> rfl) ?_
    refine QW.iload_n dMo_node_75 rfl rfl ?_
    refine MW.iald hX dMo_node_76 rfl (h2 z0).1 (rep_get (h2 z0).2) ?_
    refine QW.iadd dMo_node_77 ?_
    refine QW.istore_n (ls' := [.val (.ref 193), .val (.int a1), .val (.int a2), .val (.int (((32 * a1) + 12) + (mem 221 (Int32.toNatClampNeg a1))))]) dMo_node_78 rfl rfl ?_
    refine QW.aload_n dMo_node_79 rfl rfl ?_
    refine MW.getr (r' := 220) hX dMo_node_80 fMo_94 rfl rfl (by cases sw <;> rfl) ?_
    refine QW.iload_n dMo_node_83 rfl rfl ?_
    refine QW.iload_n dMo_node_84 rfl rfl ?_
    refine QW.sipush (v := 2000) dMo_node_85 (by decide) ?_
    refine QW.isub dMo_node_88 ?_
    refine MW.iast hX dMo_node_89 rfl (h3 z0).1 (rep_get (h3 z0).2) ?_
    refine QW.aload_n dMo_node_90 rfl rfl ?_
    refine MW.getr (r' := 219) hX dMo_node_91 fMo_91 rfl rfl (by cases sw <;> rfl) ?_
    refine QW.iload_n dMo_node_94 rfl rfl ?_
    refine QW.iload_n dMo_node_95 rfl rfl ?_
    refine MW.iast hX dMo_node_96 rfl (h4 z0).1 (rep_get (h4 z0).2) ?_
    refine QW.aload_n dMo_node_97 rfl rfl ?_
    refine MW.getr (r' := 221) hX dMo_node_98 fMo_97 rfl rfl (by cases sw <;> rfl) ?_
    refine QW.iload_n dMo_node_101 rfl rfl ?_
    refine QW.dup2 dMo_node_102 rfl rfl ?_
    refine MW.iald hX dMo_node_103 rfl (h5 z0).1 (rep_get (h5 z0).2) ?_
    refine QW.iconst (v := 1) dMo_node_104 (by decide) ?_
    refine QW.iadd dMo_node_105 ?_
    refine MW.iast hX dMo_node_106 rfl (h6 z0).1 (rep_get (h6 z0).2) ?_
    refine QW.iload_n dMo_node_107 rfl rfl ?_
    exact QW.iret dMo_node_108 rfl rfl (k7 z0)
  · refine QW.aload_n dMo_node_26 rfl rfl ?_
    refine MW.getr (r' := 220) hX dMo_node_27 fMo_94 rfl rfl (by cases sw <;> rfl) ?_
    refine QW.bipush (v := 32) dMo_node_30 (by decide) ?_
    refine QW.iload_n dMo_node_32 rfl rfl ?_
    refine QW.imul dMo_node_33 ?_
    refine QW.bipush (v := 12) dMo_node_34 (by decide) ?_
    refine QW.iadd dMo_node_36 ?_
    refine QW.iload_n dMo_node_37 rfl rfl ?_
    refine QW.iadd dMo_node_38 ?_
    refine MW.iald hX dMo_node_39 rfl (h8 z0).1 (rep_get (h8 z0).2) ?_
    refine QW.iload_n dMo_node_40 rfl rfl ?_
    refine QW.sipush (v := 2000) dMo_node_41 (by decide) ?_
    refine QW.isub dMo_node_44 ?_
    refine QW.icmp_ne (tgt := 58) dMo_node_45 (by decide) (fun z1 => ?_) (fun z1 => ?_)
    · refine MW.iinc (c := 1) (ls' := [.val (.ref 193), .val (.int a1), .val (.int a2), .val (.int (a3 + 1))]) dMo_node_58 (by decide) rfl rfl ?_
      refine QW.goto (tgt := 16) dMo_node_61 (by decide) ?_
      exact (k9 z0 z1)
    · refine QW.bipush (v := 32) dMo_node_48 (by decide) ?_
      refine QW.iload_n dMo_node_50 rfl rfl ?_
      refine QW.imul dMo_node_51 ?_
      refine QW.bipush (v := 12) dMo_node_52 (by decide) ?_
      refine QW.iadd dMo_node_54 ?_
      refine QW.iload_n dMo_node_55 rfl rfl ?_
      refine QW.iadd dMo_node_56 ?_
      exact QW.iret dMo_node_57 rfl rfl (k10 z0 z1)
theorem dMo_unite_0 : decode mMo_unite.2.1 0 = .ok (.aload_n 0, 1) := by decide +kernel
theorem dMo_unite_1 : decode mMo_unite.2.1 1 = .ok (.getfield 91, 3) := by decide +kernel
theorem dMo_unite_4 : decode mMo_unite.2.1 4 = .ok (.iload_n 2, 1) := by decide +kernel
theorem dMo_unite_5 : decode mMo_unite.2.1 5 = .ok (.iaload, 1) := by decide +kernel
theorem dMo_unite_6 : decode mMo_unite.2.1 6 = .ok (.istore 4, 2) := by decide +kernel
theorem dMo_unite_8 : decode mMo_unite.2.1 8 = .ok (.aload_n 0, 1) := by decide +kernel
theorem dMo_unite_9 : decode mMo_unite.2.1 9 = .ok (.getfield 91, 3) := by decide +kernel
theorem dMo_unite_12 : decode mMo_unite.2.1 12 = .ok (.iload_n 3, 1) := by decide +kernel
theorem dMo_unite_13 : decode mMo_unite.2.1 13 = .ok (.iaload, 1) := by decide +kernel
theorem dMo_unite_14 : decode mMo_unite.2.1 14 = .ok (.istore 5, 2) := by decide +kernel
theorem dMo_unite_16 : decode mMo_unite.2.1 16 = .ok (.bipush 32, 2) := by decide +kernel
theorem dMo_unite_18 : decode mMo_unite.2.1 18 = .ok (.iload_n 1, 1) := by decide +kernel
theorem dMo_unite_19 : decode mMo_unite.2.1 19 = .ok (.imul, 1) := by decide +kernel
theorem dMo_unite_20 : decode mMo_unite.2.1 20 = .ok (.istore 6, 2) := by decide +kernel
theorem dMo_unite_22 : decode mMo_unite.2.1 22 = .ok (.iload 6, 2) := by decide +kernel
theorem dMo_unite_24 : decode mMo_unite.2.1 24 = .ok (.bipush 32, 2) := by decide +kernel
theorem dMo_unite_26 : decode mMo_unite.2.1 26 = .ok (.iload_n 1, 1) := by decide +kernel
theorem dMo_unite_27 : decode mMo_unite.2.1 27 = .ok (.imul, 1) := by decide +kernel
theorem dMo_unite_28 : decode mMo_unite.2.1 28 = .ok (.bipush 32, 2) := by decide +kernel
theorem dMo_unite_30 : decode mMo_unite.2.1 30 = .ok (.iadd, 1) := by decide +kernel
theorem dMo_unite_31 : decode mMo_unite.2.1 31 = .ok (.if_icmp .ge 40, 3) := by decide +kernel
theorem dMo_unite_34 : decode mMo_unite.2.1 34 = .ok (.aload_n 0, 1) := by decide +kernel
theorem dMo_unite_35 : decode mMo_unite.2.1 35 = .ok (.getfield 91, 3) := by decide +kernel
theorem dMo_unite_38 : decode mMo_unite.2.1 38 = .ok (.iload 6, 2) := by decide +kernel
theorem dMo_unite_40 : decode mMo_unite.2.1 40 = .ok (.aload_n 0, 1) := by decide +kernel
theorem dMo_unite_41 : decode mMo_unite.2.1 41 = .ok (.getfield 91, 3) := by decide +kernel
theorem dMo_unite_44 : decode mMo_unite.2.1 44 = .ok (.iload 6, 2) := by decide +kernel
theorem dMo_unite_46 : decode mMo_unite.2.1 46 = .ok (.iaload, 1) := by decide +kernel
theorem dMo_unite_47 : decode mMo_unite.2.1 47 = .ok (.iload 4, 2) := by decide +kernel
theorem dMo_unite_49 : decode mMo_unite.2.1 49 = .ok (.if_icmp .ne 8, 3) := by decide +kernel
theorem dMo_unite_52 : decode mMo_unite.2.1 52 = .ok (.iload 5, 2) := by decide +kernel
theorem dMo_unite_54 : decode mMo_unite.2.1 54 = .ok (.goto 10, 3) := by decide +kernel
theorem dMo_unite_57 : decode mMo_unite.2.1 57 = .ok (.aload_n 0, 1) := by decide +kernel
theorem dMo_unite_58 : decode mMo_unite.2.1 58 = .ok (.getfield 91, 3) := by decide +kernel
theorem dMo_unite_61 : decode mMo_unite.2.1 61 = .ok (.iload 6, 2) := by decide +kernel
theorem dMo_unite_63 : decode mMo_unite.2.1 63 = .ok (.iaload, 1) := by decide +kernel
theorem dMo_unite_64 : decode mMo_unite.2.1 64 = .ok (.iastore, 1) := by decide +kernel
theorem dMo_unite_65 : decode mMo_unite.2.1 65 = .ok (.iinc 6 1, 3) := by decide +kernel
theorem dMo_unite_68 : decode mMo_unite.2.1 68 = .ok (.goto (-46), 3) := by decide +kernel
theorem dMo_unite_71 : decode mMo_unite.2.1 71 = .ok (.return_, 1) := by decide +kernel
def lMo_unite_22 (a1 : Int32) (a2 : Int32) (a3 : Int32) (a4 : Int32) (a5 : Int32) (a6 : Int32) : List Slot := [.val (.ref 193), .val (.int a1), .val (.int a2), .val (.int a3), .val (.int a4), .val (.int a5), .val (.int a6)]
def lMo_unite_64 (a1 : Int32) (a2 : Int32) (a3 : Int32) (a4 : Int32) (a5 : Int32) (a6 : Int32) : List Slot := [.val (.ref 193), .val (.int a1), .val (.int a2), .val (.int a3), .val (.int a4), .val (.int a5), .val (.int a6)]
theorem bMo_unite_0 {a1 : Int32} {a2 : Int32} {a3 : Int32} (hX : X.length = 13) (h1 : inx a2 64) (h2 : inx a3 64) (k3 : QW d mMo_unite 22 (lMo_unite_22 a1 a2 a3 (mem 219 (Int32.toNatClampNeg a2)) (mem 219 (Int32.toNatClampNeg a3)) (32 * a1)) [] (hpo X mem sw o e) P) : QW d mMo_unite 0 (qen 7 [.ref 193, .int a1, .int a2, .int a3]) [] (hpo X mem sw o e) P := by
  show QW d mMo_unite 0 [.val (.ref 193), .val (.int a1), .val (.int a2), .val (.int a3), .unset, .unset, .unset] [] (hpo X mem sw o e) P
  refine QW.aload_n dMo_unite_0 rfl rfl ?_
  refine MW.getr (r' := 219) hX dMo_unite_1 fMo_91 rfl rfl (by cases sw <;> rfl) ?_
  refine QW.iload_n dMo_unite_4 rfl rfl ?_
  refine MW.iald hX dMo_unite_5 rfl h1.1 (rep_get h1.2) ?_
  refine QW.istore (ls' := [.val (.ref 193), .val (.int a1), .val (.int a2), .val (.int a3), .val (.int (mem 219 (Int32.toNatClampNeg a2))), .unset, .unset]) dMo_unite_6 rfl ?_
  refine QW.aload_n dMo_unite_8 rfl rfl ?_
  refine MW.getr (r' := 219) hX dMo_unite_9 fMo_91 rfl rfl (by cases sw <;> rfl) ?_
  refine QW.iload_n dMo_unite_12 rfl rfl ?_
  refine MW.iald hX dMo_unite_13 rfl h2.1 (rep_get h2.2) ?_
  refine QW.istore (ls' := [.val (.ref 193), .val (.int a1), .val (.int a2), .val (.int a3), .val (.int (mem 219 (Int32.toNatClampNeg a2))), .val (.int (mem 219 (Int32.toNatClampNeg a3))), .unset]) dMo_unite_14 rfl ?_
  refine QW.bipush (v := 32) dMo_unite_16 (by decide) ?_
  refine QW.iload_n dMo_unite_18 rfl rfl ?_
  refine QW.imul dMo_unite_19 ?_
  refine QW.istore (ls' := [.val (.ref 193), .val (.int a1), .val (.int a2), .val (.int a3), .val (.int (mem 219 (Int32.toNatClampNeg a2))), .val (.int (mem 219 (Int32.toNatClampNeg a3))), .val (.int (32 * a1))]) dMo_unite_20 rfl ?_
  exact k3
theorem bMo_unite_22 {a1 : Int32} {a2 : Int32} {a3 : Int32} {a4 : Int32} {a5 : Int32} {a6 : Int32} (hX : X.length = 13) (k1 : (((32 * a1) + 32) ≤ a6) → P (.inl none, (hpo X mem sw o e))) (h2 : (¬ ((32 * a1) + 32) ≤ a6) → inx a6 64) (h3 : (¬ ((32 * a1) + 32) ≤ a6) → (¬ (mem 219 (Int32.toNatClampNeg a6)) = a4) → inx a6 64) (k4 : (¬ ((32 * a1) + 32) ≤ a6) → (¬ (mem 219 (Int32.toNatClampNeg a6)) = a4) → QW d mMo_unite 64 (lMo_unite_64 a1 a2 a3 a4 a5 a6) [.int (mem 219 (Int32.toNatClampNeg a6)), .int a6, .ref 219] (hpo X mem sw o e) P) (k5 : (¬ ((32 * a1) + 32) ≤ a6) → ((mem 219 (Int32.toNatClampNeg a6)) = a4) → QW d mMo_unite 64 (lMo_unite_64 a1 a2 a3 a4 a5 a6) [.int a5, .int a6, .ref 219] (hpo X mem sw o e) P) : QW d mMo_unite 22 (lMo_unite_22 a1 a2 a3 a4 a5 a6) [] (hpo X mem sw o e) P := by
  show QW d mMo_unite 22 [.val (.ref 193), .val (.int a1), .val (.int a2), .val (.int a3), .val (.int a4), .val (.int a5), .val (.int a6)] [] (hpo X mem sw o e) P
  refine QW.iload dMo_unite_22 rfl ?_
  refine QW.bipush (v := 32) dMo_unite_24 (by decide) ?_
  refine QW.iload_n dMo_unite_26 rfl rfl ?_
  refine QW.imul dMo_unite_27 ?_
  refine QW.bipush (v := 32) dMo_unite_28 (by decide) ?_
  refine QW.iadd dMo_unite_30 ?_
  refine QW.icmp_ge (tgt := 71) dMo_unite_31 (by decide) (fun z0 => ?_) (fun z0 => ?_)
  · exact QW.vret dMo_unite_71 rfl (k1 z0)
  · refine QW.aload_n dMo_unite_34 rfl rfl ?_
    refine MW.getr (r' := 219) hX dMo_unite_35 fMo_91 rfl rfl (by cases sw <;> rfl) ?_
    refine QW.iload dMo_unite_38 rfl ?_
    refine QW.aload_n dMo_unite_40 rfl rfl ?_
    refine MW.getr (r' := 219) hX dMo_unite_41 fMo_91 rfl rfl (by cases sw <;> rfl) ?_
    refine QW.iload dMo_unite_44 rfl ?_
    refine MW.iald hX dMo_unite_46 rfl (h2 z0).1 (rep_get (h2 z0).2) ?_
    refine QW.iload dMo_unite_47 rfl ?_
    refine QW.icmp_ne (tgt := 57) dMo_unite_49 (by decide) (fun z1 => ?_) (fun z1 => ?_)
    · refine QW.aload_n dMo_unite_57 rfl rfl ?_
      refine MW.getr (r' := 219) hX dMo_unite_58 fMo_91 rfl rfl (by cases sw <;> rfl) ?_
      refine QW.iload dMo_unite_61 rfl ?_
      refine MW.iald hX dMo_unite_63 rfl (h3 z0 z1).1 (rep_get (h3 z0 z1).2) ?_
      exact (k4 z0 z1)
    · refine QW.iload dMo_unite_52 rfl ?_
      refine QW.goto (tgt := 64) dMo_unite_54 (by decide) ?_
      exact (k5 z0 z1)
theorem bMo_unite_64 {a1 : Int32} {a2 : Int32} {a3 : Int32} {a4 : Int32} {a5 : Int32} {a6 : Int32} {s2 : Int32} {s1 : Int32} (hX : X.length = 13) (h1 : inx s1 64) (k2 : QW d mMo_unite 22 (lMo_unite_22 a1 a2 a3 a4 a5 (a6 + 1)) [] (hpo X (mup mem 219 (Int32.toNatClampNeg s1) s2) sw o e) P) : QW d mMo_unite 64 (lMo_unite_64 a1 a2 a3 a4 a5 a6) [.int s2, .int s1, .ref 219] (hpo X mem sw o e) P := by
  show QW d mMo_unite 64 [.val (.ref 193), .val (.int a1), .val (.int a2), .val (.int a3), .val (.int a4), .val (.int a5), .val (.int a6)] [.int s2, .int s1, .ref 219] (hpo X mem sw o e) P
  refine MW.iast hX dMo_unite_64 rfl h1.1 (rep_get h1.2) ?_
  refine MW.iinc (c := 1) (ls' := [.val (.ref 193), .val (.int a1), .val (.int a2), .val (.int a3), .val (.int a4), .val (.int a5), .val (.int (a6 + 1))]) dMo_unite_65 (by decide) rfl rfl ?_
  refine QW.goto (tgt := 22) dMo_unite_68 (by decide) ?_
  exact k2
theorem dMo_areOne_0 : decode mMo_areOne.2.1 0 = .ok (.iconst 0, 1) := by decide +kernel
theorem dMo_areOne_1 : decode mMo_areOne.2.1 1 = .ok (.istore 5, 2) := by decide +kernel
theorem dMo_areOne_3 : decode mMo_areOne.2.1 3 = .ok (.aload_n 0, 1) := by decide +kernel
theorem dMo_areOne_4 : decode mMo_areOne.2.1 4 = .ok (.getfield 49, 3) := by decide +kernel
theorem dMo_areOne_7 : decode mMo_areOne.2.1 7 = .ok (.iconst 4, 1) := by decide +kernel
theorem dMo_areOne_8 : decode mMo_areOne.2.1 8 = .ok (.iload_n 2, 1) := by decide +kernel
theorem dMo_areOne_9 : decode mMo_areOne.2.1 9 = .ok (.imul, 1) := by decide +kernel
theorem dMo_areOne_10 : decode mMo_areOne.2.1 10 = .ok (.iload_n 3, 1) := by decide +kernel
theorem dMo_areOne_11 : decode mMo_areOne.2.1 11 = .ok (.iadd, 1) := by decide +kernel
theorem dMo_areOne_12 : decode mMo_areOne.2.1 12 = .ok (.iaload, 1) := by decide +kernel
theorem dMo_areOne_13 : decode mMo_areOne.2.1 13 = .ok (.istore 6, 2) := by decide +kernel
theorem dMo_areOne_15 : decode mMo_areOne.2.1 15 = .ok (.iconst 0, 1) := by decide +kernel
theorem dMo_areOne_16 : decode mMo_areOne.2.1 16 = .ok (.istore 7, 2) := by decide +kernel
theorem dMo_areOne_18 : decode mMo_areOne.2.1 18 = .ok (.iload 7, 2) := by decide +kernel
theorem dMo_areOne_20 : decode mMo_areOne.2.1 20 = .ok (.aload_n 0, 1) := by decide +kernel
theorem dMo_areOne_21 : decode mMo_areOne.2.1 21 = .ok (.getfield 7, 3) := by decide +kernel
theorem dMo_areOne_24 : decode mMo_areOne.2.1 24 = .ok (.iload 6, 2) := by decide +kernel
theorem dMo_areOne_26 : decode mMo_areOne.2.1 26 = .ok (.iaload, 1) := by decide +kernel
theorem dMo_areOne_27 : decode mMo_areOne.2.1 27 = .ok (.if_icmp .ge 88, 3) := by decide +kernel
theorem dMo_areOne_30 : decode mMo_areOne.2.1 30 = .ok (.iload 5, 2) := by decide +kernel
theorem dMo_areOne_32 : decode mMo_areOne.2.1 32 = .ok (.ifCond .ne 70, 3) := by decide +kernel
theorem dMo_areOne_35 : decode mMo_areOne.2.1 35 = .ok (.aload_n 0, 1) := by decide +kernel
theorem dMo_areOne_36 : decode mMo_areOne.2.1 36 = .ok (.getfield 49, 3) := by decide +kernel
theorem dMo_areOne_39 : decode mMo_areOne.2.1 39 = .ok (.iconst 4, 1) := by decide +kernel
theorem dMo_areOne_40 : decode mMo_areOne.2.1 40 = .ok (.iload_n 2, 1) := by decide +kernel
theorem dMo_areOne_41 : decode mMo_areOne.2.1 41 = .ok (.imul, 1) := by decide +kernel
theorem dMo_areOne_42 : decode mMo_areOne.2.1 42 = .ok (.iload 4, 2) := by decide +kernel
theorem dMo_areOne_44 : decode mMo_areOne.2.1 44 = .ok (.iadd, 1) := by decide +kernel
theorem dMo_areOne_45 : decode mMo_areOne.2.1 45 = .ok (.iaload, 1) := by decide +kernel
theorem dMo_areOne_46 : decode mMo_areOne.2.1 46 = .ok (.iload 6, 2) := by decide +kernel
theorem dMo_areOne_48 : decode mMo_areOne.2.1 48 = .ok (.if_icmp .ne 58, 3) := by decide +kernel
theorem dMo_areOne_51 : decode mMo_areOne.2.1 51 = .ok (.aload_n 0, 1) := by decide +kernel
theorem dMo_areOne_52 : decode mMo_areOne.2.1 52 = .ok (.getfield 19, 3) := by decide +kernel
theorem dMo_areOne_55 : decode mMo_areOne.2.1 55 = .ok (.iconst 3, 1) := by decide +kernel
theorem dMo_areOne_56 : decode mMo_areOne.2.1 56 = .ok (.iload 6, 2) := by decide +kernel
theorem dMo_areOne_58 : decode mMo_areOne.2.1 58 = .ok (.imul, 1) := by decide +kernel
theorem dMo_areOne_59 : decode mMo_areOne.2.1 59 = .ok (.iload 7, 2) := by decide +kernel
theorem dMo_areOne_61 : decode mMo_areOne.2.1 61 = .ok (.iadd, 1) := by decide +kernel
theorem dMo_areOne_62 : decode mMo_areOne.2.1 62 = .ok (.baload, 1) := by decide +kernel
theorem dMo_areOne_63 : decode mMo_areOne.2.1 63 = .ok (.ifCond .eq 43, 3) := by decide +kernel
theorem dMo_areOne_66 : decode mMo_areOne.2.1 66 = .ok (.aload_n 0, 1) := by decide +kernel
theorem dMo_areOne_67 : decode mMo_areOne.2.1 67 = .ok (.getfield 91, 3) := by decide +kernel
theorem dMo_areOne_70 : decode mMo_areOne.2.1 70 = .ok (.bipush 32, 2) := by decide +kernel
theorem dMo_areOne_72 : decode mMo_areOne.2.1 72 = .ok (.iload_n 1, 1) := by decide +kernel
theorem dMo_areOne_73 : decode mMo_areOne.2.1 73 = .ok (.imul, 1) := by decide +kernel
theorem dMo_areOne_74 : decode mMo_areOne.2.1 74 = .ok (.iconst 3, 1) := by decide +kernel
theorem dMo_areOne_75 : decode mMo_areOne.2.1 75 = .ok (.iload_n 3, 1) := by decide +kernel
theorem dMo_areOne_76 : decode mMo_areOne.2.1 76 = .ok (.imul, 1) := by decide +kernel
theorem dMo_areOne_77 : decode mMo_areOne.2.1 77 = .ok (.iadd, 1) := by decide +kernel
theorem dMo_areOne_78 : decode mMo_areOne.2.1 78 = .ok (.iload 7, 2) := by decide +kernel
theorem dMo_areOne_80 : decode mMo_areOne.2.1 80 = .ok (.iadd, 1) := by decide +kernel
theorem dMo_areOne_81 : decode mMo_areOne.2.1 81 = .ok (.iaload, 1) := by decide +kernel
theorem dMo_areOne_82 : decode mMo_areOne.2.1 82 = .ok (.aload_n 0, 1) := by decide +kernel
theorem dMo_areOne_83 : decode mMo_areOne.2.1 83 = .ok (.getfield 91, 3) := by decide +kernel
theorem dMo_areOne_86 : decode mMo_areOne.2.1 86 = .ok (.bipush 32, 2) := by decide +kernel
theorem dMo_areOne_88 : decode mMo_areOne.2.1 88 = .ok (.iload_n 1, 1) := by decide +kernel
theorem dMo_areOne_89 : decode mMo_areOne.2.1 89 = .ok (.imul, 1) := by decide +kernel
theorem dMo_areOne_90 : decode mMo_areOne.2.1 90 = .ok (.iconst 3, 1) := by decide +kernel
theorem dMo_areOne_91 : decode mMo_areOne.2.1 91 = .ok (.iload 4, 2) := by decide +kernel
theorem dMo_areOne_93 : decode mMo_areOne.2.1 93 = .ok (.imul, 1) := by decide +kernel
theorem dMo_areOne_94 : decode mMo_areOne.2.1 94 = .ok (.iadd, 1) := by decide +kernel
theorem dMo_areOne_95 : decode mMo_areOne.2.1 95 = .ok (.iload 7, 2) := by decide +kernel
theorem dMo_areOne_97 : decode mMo_areOne.2.1 97 = .ok (.iadd, 1) := by decide +kernel
theorem dMo_areOne_98 : decode mMo_areOne.2.1 98 = .ok (.iaload, 1) := by decide +kernel
theorem dMo_areOne_99 : decode mMo_areOne.2.1 99 = .ok (.if_icmp .ne 7, 3) := by decide +kernel
theorem dMo_areOne_102 : decode mMo_areOne.2.1 102 = .ok (.iconst 1, 1) := by decide +kernel
theorem dMo_areOne_103 : decode mMo_areOne.2.1 103 = .ok (.goto 4, 3) := by decide +kernel
theorem dMo_areOne_106 : decode mMo_areOne.2.1 106 = .ok (.iconst 0, 1) := by decide +kernel
theorem dMo_areOne_107 : decode mMo_areOne.2.1 107 = .ok (.istore 5, 2) := by decide +kernel
theorem dMo_areOne_109 : decode mMo_areOne.2.1 109 = .ok (.iinc 7 1, 3) := by decide +kernel
theorem dMo_areOne_112 : decode mMo_areOne.2.1 112 = .ok (.goto (-94), 3) := by decide +kernel
theorem dMo_areOne_115 : decode mMo_areOne.2.1 115 = .ok (.iload 5, 2) := by decide +kernel
theorem dMo_areOne_117 : decode mMo_areOne.2.1 117 = .ok (.ireturn, 1) := by decide +kernel
def lMo_areOne_18 (a1 : Int32) (a2 : Int32) (a3 : Int32) (a4 : Int32) (a5 : Int32) (a6 : Int32) (a7 : Int32) : List Slot := [.val (.ref 193), .val (.int a1), .val (.int a2), .val (.int a3), .val (.int a4), .val (.int a5), .val (.int a6), .val (.int a7)]
def lMo_areOne_102 (a1 : Int32) (a2 : Int32) (a3 : Int32) (a4 : Int32) (a5 : Int32) (a6 : Int32) (a7 : Int32) : List Slot := [.val (.ref 193), .val (.int a1), .val (.int a2), .val (.int a3), .val (.int a4), .val (.int a5), .val (.int a6), .val (.int a7)]
def lMo_areOne_106 (a1 : Int32) (a2 : Int32) (a3 : Int32) (a4 : Int32) (a5 : Int32) (a6 : Int32) (a7 : Int32) : List Slot := [.val (.ref 193), .val (.int a1), .val (.int a2), .val (.int a3), .val (.int a4), .val (.int a5), .val (.int a6), .val (.int a7)]
def lMo_areOne_107 (a1 : Int32) (a2 : Int32) (a3 : Int32) (a4 : Int32) (a5 : Int32) (a6 : Int32) (a7 : Int32) : List Slot := [.val (.ref 193), .val (.int a1), .val (.int a2), .val (.int a3), .val (.int a4), .val (.int a5), .val (.int a6), .val (.int a7)]
theorem bMo_areOne_0 {a1 : Int32} {a2 : Int32} {a3 : Int32} {a4 : Int32} (hX : X.length = 13) (h1 : inx ((4 * a2) + a3) 60) (k2 : QW d mMo_areOne 18 (lMo_areOne_18 a1 a2 a3 a4 0 (mem 205 (Int32.toNatClampNeg ((4 * a2) + a3))) 0) [] (hpo X mem sw o e) P) : QW d mMo_areOne 0 (qen 8 [.ref 193, .int a1, .int a2, .int a3, .int a4]) [] (hpo X mem sw o e) P := by
  show QW d mMo_areOne 0 [.val (.ref 193), .val (.int a1), .val (.int a2), .val (.int a3), .val (.int a4), .unset, .unset, .unset] [] (hpo X mem sw o e) P
  refine QW.iconst (v := 0) dMo_areOne_0 (by decide) ?_
  refine QW.istore (ls' := [.val (.ref 193), .val (.int a1), .val (.int a2), .val (.int a3), .val (.int a4), .val (.int 0), .unset, .unset]) dMo_areOne_1 rfl ?_
  refine QW.aload_n dMo_areOne_3 rfl rfl ?_
  refine MW.getr (r' := 205) hX dMo_areOne_4 fMo_49 rfl rfl (by cases sw <;> rfl) ?_
  refine QW.iconst (v := 4) dMo_areOne_7 (by decide) ?_
  refine QW.iload_n dMo_areOne_8 rfl rfl ?_
  refine QW.imul dMo_areOne_9 ?_
  refine QW.iload_n dMo_areOne_10 rfl rfl ?_
  refine QW.iadd dMo_areOne_11 ?_
  refine MW.iald hX dMo_areOne_12 rfl h1.1 (rep_get h1.2) ?_
  refine QW.istore (ls' := [.val (.ref 193), .val (.int a1), .val (.int a2), .val (.int a3), .val (.int a4), .val (.int 0), .val (.int (mem 205 (Int32.toNatClampNeg ((4 * a2) + a3)))), .unset]) dMo_areOne_13 rfl ?_
  refine QW.iconst (v := 0) dMo_areOne_15 (by decide) ?_
  refine QW.istore (ls' := [.val (.ref 193), .val (.int a1), .val (.int a2), .val (.int a3), .val (.int a4), .val (.int 0), .val (.int (mem 205 (Int32.toNatClampNeg ((4 * a2) + a3)))), .val (.int 0)]) dMo_areOne_16 rfl ?_
  exact k2
theorem bMo_areOne_18 {a1 : Int32} {a2 : Int32} {a3 : Int32} {a4 : Int32} {a5 : Int32} {a6 : Int32} {a7 : Int32} (hX : X.length = 13) (h1 : inx a6 4) (h2 : ((mem 194 (Int32.toNatClampNeg a6)) ≤ a7) → narrow .boolean (.int a5) = .int a5) (k3 : ((mem 194 (Int32.toNatClampNeg a6)) ≤ a7) → P (.inl (some (.int a5)), (hpo X mem sw o e))) (k4 : (¬ (mem 194 (Int32.toNatClampNeg a6)) ≤ a7) → (¬ a5 = 0) → QW d mMo_areOne 102 (lMo_areOne_102 a1 a2 a3 a4 a5 a6 a7) [] (hpo X mem sw o e) P) (h5 : (¬ (mem 194 (Int32.toNatClampNeg a6)) ≤ a7) → (a5 = 0) → inx ((4 * a2) + a4) 60) (k6 : (¬ (mem 194 (Int32.toNatClampNeg a6)) ≤ a7) → (a5 = 0) → (¬ (mem 205 (Int32.toNatClampNeg ((4 * a2) + a4))) = a6) → QW d mMo_areOne 106 (lMo_areOne_106 a1 a2 a3 a4 a5 a6 a7) [] (hpo X mem sw o e) P) (h7 : (¬ (mem 194 (Int32.toNatClampNeg a6)) ≤ a7) → (a5 = 0) → ((mem 205 (Int32.toNatClampNeg ((4 * a2) + a4))) = a6) → inx ((3 * a6) + a7) 12) (k8 : (¬ (mem 194 (Int32.toNatClampNeg a6)) ≤ a7) → (a5 = 0) → ((mem 205 (Int32.toNatClampNeg ((4 * a2) + a4))) = a6) → ((mem 197 (Int32.toNatClampNeg ((3 * a6) + a7))) = 0) → QW d mMo_areOne 106 (lMo_areOne_106 a1 a2 a3 a4 a5 a6 a7) [] (hpo X mem sw o e) P) (h9 : (¬ (mem 194 (Int32.toNatClampNeg a6)) ≤ a7) → (a5 = 0) → ((mem 205 (Int32.toNatClampNeg ((4 * a2) + a4))) = a6) → (¬ (mem 197 (Int32.toNatClampNeg ((3 * a6) + a7))) = 0) → inx (((32 * a1) + (3 * a3)) + a7) 64) (h10 : (¬ (mem 194 (Int32.toNatClampNeg a6)) ≤ a7) → (a5 = 0) → ((mem 205 (Int32.toNatClampNeg ((4 * a2) + a4))) = a6) → (¬ (mem 197 (Int32.toNatClampNeg ((3 * a6) + a7))) = 0) → inx (((32 * a1) + (3 * a4)) + a7) 64) (k11 : (¬ (mem 194 (Int32.toNatClampNeg a6)) ≤ a7) → (a5 = 0) → ((mem 205 (Int32.toNatClampNeg ((4 * a2) + a4))) = a6) → (¬ (mem 197 (Int32.toNatClampNeg ((3 * a6) + a7))) = 0) → (¬ (mem 219 (Int32.toNatClampNeg (((32 * a1) + (3 * a3)) + a7))) = (mem 219 (Int32.toNatClampNeg (((32 * a1) + (3 * a4)) + a7)))) → QW d mMo_areOne 106 (lMo_areOne_106 a1 a2 a3 a4 a5 a6 a7) [] (hpo X mem sw o e) P) (k12 : (¬ (mem 194 (Int32.toNatClampNeg a6)) ≤ a7) → (a5 = 0) → ((mem 205 (Int32.toNatClampNeg ((4 * a2) + a4))) = a6) → (¬ (mem 197 (Int32.toNatClampNeg ((3 * a6) + a7))) = 0) → ((mem 219 (Int32.toNatClampNeg (((32 * a1) + (3 * a3)) + a7))) = (mem 219 (Int32.toNatClampNeg (((32 * a1) + (3 * a4)) + a7)))) → QW d mMo_areOne 102 (lMo_areOne_102 a1 a2 a3 a4 a5 a6 a7) [] (hpo X mem sw o e) P) : QW d mMo_areOne 18 (lMo_areOne_18 a1 a2 a3 a4 a5 a6 a7) [] (hpo X mem sw o e) P := by
  show QW d mMo_areOne 18 [.val (.ref 193), .val (.int a1), .val (.int a2), .val (.int a3), .val (.int a4), .val (.int a5), .val (.int a6), .val (.int a7)] [] (hpo X mem sw o e) P
  refine QW.iload dMo_areOne_18 rfl ?_
  refine QW.aload_n dMo_areOne_20 rfl rfl ?_
  refine MW.getr (r' := 194) hX dMo_areOne_21 fMo_7 rfl rfl (by cases sw <;> rfl) ?_
  refine QW.iload dMo_areOne_24 rfl ?_
  refine MW.iald hX dMo_areOne_26 rfl h1.1 (rep_get h1.2) ?_
  refine QW.icmp_ge (tgt := 115) dMo_areOne_27 (by decide) (fun z0 => ?_) (fun z0 => ?_)
  · refine QW.iload dMo_areOne_115 rfl ?_
    exact QW.iret dMo_areOne_117 rfl (h2 z0) (k3 z0)
  · refine QW.iload dMo_areOne_30 rfl ?_
    refine QW.if_ne (tgt := 102) dMo_areOne_32 (by decide) (fun z1 => ?_) (fun z1 => ?_)
    · exact (k4 z0 z1)
    · refine QW.aload_n dMo_areOne_35 rfl rfl ?_
      refine MW.getr (r' := 205) hX dMo_areOne_36 fMo_49 rfl rfl (by cases sw <;> rfl) ?_
      refine QW.iconst (v := 4) dMo_areOne_39 (by decide) ?_
      refine QW.iload_n dMo_areOne_40 rfl rfl ?_
      refine QW.imul dMo_areOne_41 ?_
      refine QW.iload dMo_areOne_42 rfl ?_
      refine QW.iadd dMo_areOne_44 ?_
      refine MW.iald hX dMo_areOne_45 rfl (h5 z0 z1).1 (rep_get (h5 z0 z1).2) ?_
      refine QW.iload dMo_areOne_46 rfl ?_
      refine QW.icmp_ne (tgt := 106) dMo_areOne_48 (by decide) (fun z2 => ?_) (fun z2 => ?_)
      · exact (k6 z0 z1 z2)
      · refine QW.aload_n dMo_areOne_51 rfl rfl ?_
        refine MW.getr (r' := 197) hX dMo_areOne_52 fMo_19 rfl rfl (by cases sw <;> rfl) ?_
        refine QW.iconst (v := 3) dMo_areOne_55 (by decide) ?_
        refine QW.iload dMo_areOne_56 rfl ?_
        refine QW.imul dMo_areOne_58 ?_
        refine QW.iload dMo_areOne_59 rfl ?_
        refine QW.iadd dMo_areOne_61 ?_
        refine MW.zald hX dMo_areOne_62 rfl (h7 z0 z1 z2).1 (rep_get (h7 z0 z1 z2).2) ?_
        refine QW.if_eq (tgt := 106) dMo_areOne_63 (by decide) (fun z3 => ?_) (fun z3 => ?_)
        · exact (k8 z0 z1 z2 z3)
        · refine QW.aload_n dMo_areOne_66 rfl rfl ?_
          refine MW.getr (r' := 219) hX dMo_areOne_67 fMo_91 rfl rfl (by cases sw <;> rfl) ?_
          refine QW.bipush (v := 32) dMo_areOne_70 (by decide) ?_
          refine QW.iload_n dMo_areOne_72 rfl rfl ?_
          refine QW.imul dMo_areOne_73 ?_
          refine QW.iconst (v := 3) dMo_areOne_74 (by decide) ?_
          refine QW.iload_n dMo_areOne_75 rfl rfl ?_
          refine QW.imul dMo_areOne_76 ?_
          refine QW.iadd dMo_areOne_77 ?_
          refine QW.iload dMo_areOne_78 rfl ?_
          refine QW.iadd dMo_areOne_80 ?_
          refine MW.iald hX dMo_areOne_81 rfl (h9 z0 z1 z2 z3).1 (rep_get (h9 z0 z1 z2 z3).2) ?_
          refine QW.aload_n dMo_areOne_82 rfl rfl ?_
          refine MW.getr (r' := 219) hX dMo_areOne_83 fMo_91 rfl rfl (by cases sw <;> rfl) ?_
          refine QW.bipush (v := 32) dMo_areOne_86 (by decide) ?_
          refine QW.iload_n dMo_areOne_88 rfl rfl ?_
          refine QW.imul dMo_areOne_89 ?_
          refine QW.iconst (v := 3) dMo_areOne_90 (by decide) ?_
          refine QW.iload dMo_areOne_91 rfl ?_
          refine QW.imul dMo_areOne_93 ?_
          refine QW.iadd dMo_areOne_94 ?_
          refine QW.iload dMo_areOne_95 rfl ?_
          refine QW.iadd dMo_areOne_97 ?_
          refine MW.iald hX dMo_areOne_98 rfl (h10 z0 z1 z2 z3).1 (rep_get (h10 z0 z1 z2 z3).2) ?_
          refine QW.icmp_ne (tgt := 106) dMo_areOne_99 (by decide) (fun z4 => ?_) (fun z4 => ?_)
          · exact (k11 z0 z1 z2 z3 z4)
          · exact (k12 z0 z1 z2 z3 z4)
theorem bMo_areOne_102 {a1 : Int32} {a2 : Int32} {a3 : Int32} {a4 : Int32} {a5 : Int32} {a6 : Int32} {a7 : Int32} (hX : X.length = 13) (k1 : QW d mMo_areOne 107 (lMo_areOne_107 a1 a2 a3 a4 a5 a6 a7) [.int 1] (hpo X mem sw o e) P) : QW d mMo_areOne 102 (lMo_areOne_102 a1 a2 a3 a4 a5 a6 a7) [] (hpo X mem sw o e) P := by
  show QW d mMo_areOne 102 [.val (.ref 193), .val (.int a1), .val (.int a2), .val (.int a3), .val (.int a4), .val (.int a5), .val (.int a6), .val (.int a7)] [] (hpo X mem sw o e) P
  refine QW.iconst (v := 1) dMo_areOne_102 (by decide) ?_
  refine QW.goto (tgt := 107) dMo_areOne_103 (by decide) ?_
  exact k1
theorem bMo_areOne_106 {a1 : Int32} {a2 : Int32} {a3 : Int32} {a4 : Int32} {a5 : Int32} {a6 : Int32} {a7 : Int32} (hX : X.length = 13) (k1 : QW d mMo_areOne 107 (lMo_areOne_107 a1 a2 a3 a4 a5 a6 a7) [.int 0] (hpo X mem sw o e) P) : QW d mMo_areOne 106 (lMo_areOne_106 a1 a2 a3 a4 a5 a6 a7) [] (hpo X mem sw o e) P := by
  show QW d mMo_areOne 106 [.val (.ref 193), .val (.int a1), .val (.int a2), .val (.int a3), .val (.int a4), .val (.int a5), .val (.int a6), .val (.int a7)] [] (hpo X mem sw o e) P
  refine QW.iconst (v := 0) dMo_areOne_106 (by decide) ?_
  exact k1
theorem bMo_areOne_107 {a1 : Int32} {a2 : Int32} {a3 : Int32} {a4 : Int32} {a5 : Int32} {a6 : Int32} {a7 : Int32} {s0 : Int32} (hX : X.length = 13) (k1 : QW d mMo_areOne 18 (lMo_areOne_18 a1 a2 a3 a4 s0 a6 (a7 + 1)) [] (hpo X mem sw o e) P) : QW d mMo_areOne 107 (lMo_areOne_107 a1 a2 a3 a4 a5 a6 a7) [.int s0] (hpo X mem sw o e) P := by
  show QW d mMo_areOne 107 [.val (.ref 193), .val (.int a1), .val (.int a2), .val (.int a3), .val (.int a4), .val (.int a5), .val (.int a6), .val (.int a7)] [.int s0] (hpo X mem sw o e) P
  refine QW.istore (ls' := [.val (.ref 193), .val (.int a1), .val (.int a2), .val (.int a3), .val (.int a4), .val (.int s0), .val (.int a6), .val (.int a7)]) dMo_areOne_107 rfl ?_
  refine MW.iinc (c := 1) (ls' := [.val (.ref 193), .val (.int a1), .val (.int a2), .val (.int a3), .val (.int a4), .val (.int s0), .val (.int a6), .val (.int (a7 + 1))]) dMo_areOne_109 (by decide) rfl rfl ?_
  refine QW.goto (tgt := 18) dMo_areOne_112 (by decide) ?_
  exact k1
theorem dMo_form_0 : decode mMo_form.2.1 0 = .ok (.aload_n 0, 1) := by decide +kernel
theorem dMo_form_1 : decode mMo_form.2.1 1 = .ok (.getfield 97, 3) := by decide +kernel
theorem dMo_form_4 : decode mMo_form.2.1 4 = .ok (.iload_n 1, 1) := by decide +kernel
theorem dMo_form_5 : decode mMo_form.2.1 5 = .ok (.iconst 0, 1) := by decide +kernel
theorem dMo_form_6 : decode mMo_form.2.1 6 = .ok (.iastore, 1) := by decide +kernel
theorem dMo_form_7 : decode mMo_form.2.1 7 = .ok (.iconst 0, 1) := by decide +kernel
theorem dMo_form_8 : decode mMo_form.2.1 8 = .ok (.istore_n 3, 1) := by decide +kernel
theorem dMo_form_9 : decode mMo_form.2.1 9 = .ok (.iload_n 3, 1) := by decide +kernel
theorem dMo_form_10 : decode mMo_form.2.1 10 = .ok (.bipush 32, 2) := by decide +kernel
theorem dMo_form_12 : decode mMo_form.2.1 12 = .ok (.if_icmp .ge 26, 3) := by decide +kernel
theorem dMo_form_15 : decode mMo_form.2.1 15 = .ok (.aload_n 0, 1) := by decide +kernel
theorem dMo_form_16 : decode mMo_form.2.1 16 = .ok (.getfield 91, 3) := by decide +kernel
theorem dMo_form_19 : decode mMo_form.2.1 19 = .ok (.bipush 32, 2) := by decide +kernel
theorem dMo_form_21 : decode mMo_form.2.1 21 = .ok (.iload_n 1, 1) := by decide +kernel
theorem dMo_form_22 : decode mMo_form.2.1 22 = .ok (.imul, 1) := by decide +kernel
theorem dMo_form_23 : decode mMo_form.2.1 23 = .ok (.iload_n 3, 1) := by decide +kernel
theorem dMo_form_24 : decode mMo_form.2.1 24 = .ok (.iadd, 1) := by decide +kernel
theorem dMo_form_25 : decode mMo_form.2.1 25 = .ok (.bipush 32, 2) := by decide +kernel
theorem dMo_form_27 : decode mMo_form.2.1 27 = .ok (.iload_n 1, 1) := by decide +kernel
theorem dMo_form_28 : decode mMo_form.2.1 28 = .ok (.imul, 1) := by decide +kernel
theorem dMo_form_29 : decode mMo_form.2.1 29 = .ok (.iload_n 3, 1) := by decide +kernel
theorem dMo_form_30 : decode mMo_form.2.1 30 = .ok (.iadd, 1) := by decide +kernel
theorem dMo_form_31 : decode mMo_form.2.1 31 = .ok (.iastore, 1) := by decide +kernel
theorem dMo_form_32 : decode mMo_form.2.1 32 = .ok (.iinc 3 1, 3) := by decide +kernel
theorem dMo_form_35 : decode mMo_form.2.1 35 = .ok (.goto (-26), 3) := by decide +kernel
theorem dMo_form_38 : decode mMo_form.2.1 38 = .ok (.bipush 6, 2) := by decide +kernel
theorem dMo_form_40 : decode mMo_form.2.1 40 = .ok (.iload_n 2, 1) := by decide +kernel
theorem dMo_form_41 : decode mMo_form.2.1 41 = .ok (.imul, 1) := by decide +kernel
theorem dMo_form_42 : decode mMo_form.2.1 42 = .ok (.istore_n 3, 1) := by decide +kernel
theorem dMo_form_43 : decode mMo_form.2.1 43 = .ok (.iload_n 3, 1) := by decide +kernel
theorem dMo_form_44 : decode mMo_form.2.1 44 = .ok (.bipush 6, 2) := by decide +kernel
theorem dMo_form_46 : decode mMo_form.2.1 46 = .ok (.iload_n 2, 1) := by decide +kernel
theorem dMo_form_47 : decode mMo_form.2.1 47 = .ok (.imul, 1) := by decide +kernel
theorem dMo_form_48 : decode mMo_form.2.1 48 = .ok (.aload_n 0, 1) := by decide +kernel
theorem dMo_form_49 : decode mMo_form.2.1 49 = .ok (.getfield 55, 3) := by decide +kernel
theorem dMo_form_52 : decode mMo_form.2.1 52 = .ok (.iload_n 2, 1) := by decide +kernel
theorem dMo_form_53 : decode mMo_form.2.1 53 = .ok (.iaload, 1) := by decide +kernel
theorem dMo_form_54 : decode mMo_form.2.1 54 = .ok (.iadd, 1) := by decide +kernel
theorem dMo_form_55 : decode mMo_form.2.1 55 = .ok (.if_icmp .ge 53, 3) := by decide +kernel
theorem dMo_form_58 : decode mMo_form.2.1 58 = .ok (.aload_n 0, 1) := by decide +kernel
theorem dMo_form_59 : decode mMo_form.2.1 59 = .ok (.iload_n 1, 1) := by decide +kernel
theorem dMo_form_60 : decode mMo_form.2.1 60 = .ok (.aload_n 0, 1) := by decide +kernel
theorem dMo_form_61 : decode mMo_form.2.1 61 = .ok (.getfield 58, 3) := by decide +kernel
theorem dMo_form_64 : decode mMo_form.2.1 64 = .ok (.iload_n 3, 1) := by decide +kernel
theorem dMo_form_65 : decode mMo_form.2.1 65 = .ok (.iaload, 1) := by decide +kernel
theorem dMo_form_66 : decode mMo_form.2.1 66 = .ok (.invokevirtual 250, 3) := by decide +kernel
theorem dMo_form_69 : decode mMo_form.2.1 69 = .ok (.istore 4, 2) := by decide +kernel
theorem dMo_form_71 : decode mMo_form.2.1 71 = .ok (.aload_n 0, 1) := by decide +kernel
theorem dMo_form_72 : decode mMo_form.2.1 72 = .ok (.iload_n 1, 1) := by decide +kernel
theorem dMo_form_73 : decode mMo_form.2.1 73 = .ok (.aload_n 0, 1) := by decide +kernel
theorem dMo_form_74 : decode mMo_form.2.1 74 = .ok (.getfield 61, 3) := by decide +kernel
theorem dMo_form_77 : decode mMo_form.2.1 77 = .ok (.iload_n 3, 1) := by decide +kernel
theorem dMo_form_78 : decode mMo_form.2.1 78 = .ok (.iaload, 1) := by decide +kernel
theorem dMo_form_79 : decode mMo_form.2.1 79 = .ok (.invokevirtual 250, 3) := by decide +kernel
theorem dMo_form_82 : decode mMo_form.2.1 82 = .ok (.istore 5, 2) := by decide +kernel
theorem dMo_form_84 : decode mMo_form.2.1 84 = .ok (.aload_n 0, 1) := by decide +kernel
theorem dMo_form_85 : decode mMo_form.2.1 85 = .ok (.getfield 64, 3) := by decide +kernel
theorem dMo_form_88 : decode mMo_form.2.1 88 = .ok (.iload_n 3, 1) := by decide +kernel
theorem dMo_form_89 : decode mMo_form.2.1 89 = .ok (.baload, 1) := by decide +kernel
theorem dMo_form_90 : decode mMo_form.2.1 90 = .ok (.ifCond .ne 12, 3) := by decide +kernel
theorem dMo_form_93 : decode mMo_form.2.1 93 = .ok (.aload_n 0, 1) := by decide +kernel
theorem dMo_form_94 : decode mMo_form.2.1 94 = .ok (.iload_n 1, 1) := by decide +kernel
theorem dMo_form_95 : decode mMo_form.2.1 95 = .ok (.iload 4, 2) := by decide +kernel
theorem dMo_form_97 : decode mMo_form.2.1 97 = .ok (.iload 5, 2) := by decide +kernel
theorem dMo_form_99 : decode mMo_form.2.1 99 = .ok (.invokevirtual 253, 3) := by decide +kernel
theorem dMo_form_102 : decode mMo_form.2.1 102 = .ok (.iinc 3 1, 3) := by decide +kernel
theorem dMo_form_105 : decode mMo_form.2.1 105 = .ok (.goto (-62), 3) := by decide +kernel
theorem dMo_form_108 : decode mMo_form.2.1 108 = .ok (.iconst 3, 1) := by decide +kernel
theorem dMo_form_109 : decode mMo_form.2.1 109 = .ok (.iload_n 2, 1) := by decide +kernel
theorem dMo_form_110 : decode mMo_form.2.1 110 = .ok (.imul, 1) := by decide +kernel
theorem dMo_form_111 : decode mMo_form.2.1 111 = .ok (.istore_n 3, 1) := by decide +kernel
theorem dMo_form_112 : decode mMo_form.2.1 112 = .ok (.iload_n 3, 1) := by decide +kernel
theorem dMo_form_113 : decode mMo_form.2.1 113 = .ok (.iconst 3, 1) := by decide +kernel
theorem dMo_form_114 : decode mMo_form.2.1 114 = .ok (.iload_n 2, 1) := by decide +kernel
theorem dMo_form_115 : decode mMo_form.2.1 115 = .ok (.imul, 1) := by decide +kernel
theorem dMo_form_116 : decode mMo_form.2.1 116 = .ok (.aload_n 0, 1) := by decide +kernel
theorem dMo_form_117 : decode mMo_form.2.1 117 = .ok (.getfield 40, 3) := by decide +kernel
theorem dMo_form_120 : decode mMo_form.2.1 120 = .ok (.iload_n 2, 1) := by decide +kernel
theorem dMo_form_121 : decode mMo_form.2.1 121 = .ok (.iaload, 1) := by decide +kernel
theorem dMo_form_122 : decode mMo_form.2.1 122 = .ok (.iadd, 1) := by decide +kernel
theorem dMo_form_123 : decode mMo_form.2.1 123 = .ok (.if_icmp .ge 21, 3) := by decide +kernel
theorem dMo_form_126 : decode mMo_form.2.1 126 = .ok (.aload_n 0, 1) := by decide +kernel
theorem dMo_form_127 : decode mMo_form.2.1 127 = .ok (.iload_n 1, 1) := by decide +kernel
theorem dMo_form_128 : decode mMo_form.2.1 128 = .ok (.aload_n 0, 1) := by decide +kernel
theorem dMo_form_129 : decode mMo_form.2.1 129 = .ok (.getfield 43, 3) := by decide +kernel
theorem dMo_form_132 : decode mMo_form.2.1 132 = .ok (.iload_n 3, 1) := by decide +kernel
theorem dMo_form_133 : decode mMo_form.2.1 133 = .ok (.iaload, 1) := by decide +kernel
theorem dMo_form_134 : decode mMo_form.2.1 134 = .ok (.invokevirtual 250, 3) := by decide +kernel
theorem dMo_form_137 : decode mMo_form.2.1 137 = .ok (.pop, 1) := by decide +kernel
theorem dMo_form_138 : decode mMo_form.2.1 138 = .ok (.iinc 3 1, 3) := by decide +kernel
theorem dMo_form_141 : decode mMo_form.2.1 141 = .ok (.goto (-29), 3) := by decide +kernel
theorem dMo_form_144 : decode mMo_form.2.1 144 = .ok (.iconst 0, 1) := by decide +kernel
theorem dMo_form_145 : decode mMo_form.2.1 145 = .ok (.istore_n 3, 1) := by decide +kernel
theorem dMo_form_146 : decode mMo_form.2.1 146 = .ok (.iload_n 3, 1) := by decide +kernel
theorem dMo_form_147 : decode mMo_form.2.1 147 = .ok (.aload_n 0, 1) := by decide +kernel
theorem dMo_form_148 : decode mMo_form.2.1 148 = .ok (.getfield 46, 3) := by decide +kernel
theorem dMo_form_151 : decode mMo_form.2.1 151 = .ok (.iload_n 2, 1) := by decide +kernel
theorem dMo_form_152 : decode mMo_form.2.1 152 = .ok (.iaload, 1) := by decide +kernel
theorem dMo_form_153 : decode mMo_form.2.1 153 = .ok (.if_icmp .ge 20, 3) := by decide +kernel
theorem dMo_form_156 : decode mMo_form.2.1 156 = .ok (.aload_n 0, 1) := by decide +kernel
theorem dMo_form_157 : decode mMo_form.2.1 157 = .ok (.getfield 100, 3) := by decide +kernel
theorem dMo_form_160 : decode mMo_form.2.1 160 = .ok (.iconst 4, 1) := by decide +kernel
theorem dMo_form_161 : decode mMo_form.2.1 161 = .ok (.iload_n 1, 1) := by decide +kernel
theorem dMo_form_162 : decode mMo_form.2.1 162 = .ok (.imul, 1) := by decide +kernel
theorem dMo_form_163 : decode mMo_form.2.1 163 = .ok (.iload_n 3, 1) := by decide +kernel
theorem dMo_form_164 : decode mMo_form.2.1 164 = .ok (.iadd, 1) := by decide +kernel
theorem dMo_form_165 : decode mMo_form.2.1 165 = .ok (.iload_n 3, 1) := by decide +kernel
theorem dMo_form_166 : decode mMo_form.2.1 166 = .ok (.iastore, 1) := by decide +kernel
theorem dMo_form_167 : decode mMo_form.2.1 167 = .ok (.iinc 3 1, 3) := by decide +kernel
theorem dMo_form_170 : decode mMo_form.2.1 170 = .ok (.goto (-24), 3) := by decide +kernel
theorem dMo_form_173 : decode mMo_form.2.1 173 = .ok (.iconst 0, 1) := by decide +kernel
theorem dMo_form_174 : decode mMo_form.2.1 174 = .ok (.istore_n 3, 1) := by decide +kernel
theorem dMo_form_175 : decode mMo_form.2.1 175 = .ok (.iload_n 3, 1) := by decide +kernel
theorem dMo_form_176 : decode mMo_form.2.1 176 = .ok (.iconst 4, 1) := by decide +kernel
theorem dMo_form_177 : decode mMo_form.2.1 177 = .ok (.if_icmp .ge 68, 3) := by decide +kernel
theorem dMo_form_180 : decode mMo_form.2.1 180 = .ok (.iconst 0, 1) := by decide +kernel
theorem dMo_form_181 : decode mMo_form.2.1 181 = .ok (.istore 4, 2) := by decide +kernel
theorem dMo_form_183 : decode mMo_form.2.1 183 = .ok (.iload 4, 2) := by decide +kernel
theorem dMo_form_185 : decode mMo_form.2.1 185 = .ok (.aload_n 0, 1) := by decide +kernel
theorem dMo_form_186 : decode mMo_form.2.1 186 = .ok (.getfield 46, 3) := by decide +kernel
theorem dMo_form_189 : decode mMo_form.2.1 189 = .ok (.iload_n 2, 1) := by decide +kernel
theorem dMo_form_190 : decode mMo_form.2.1 190 = .ok (.iaload, 1) := by decide +kernel
theorem dMo_form_191 : decode mMo_form.2.1 191 = .ok (.if_icmp .ge 48, 3) := by decide +kernel
theorem dMo_form_194 : decode mMo_form.2.1 194 = .ok (.iconst 0, 1) := by decide +kernel
theorem dMo_form_195 : decode mMo_form.2.1 195 = .ok (.istore 5, 2) := by decide +kernel
theorem dMo_form_197 : decode mMo_form.2.1 197 = .ok (.iload 5, 2) := by decide +kernel
theorem dMo_form_199 : decode mMo_form.2.1 199 = .ok (.iload 4, 2) := by decide +kernel
theorem dMo_form_201 : decode mMo_form.2.1 201 = .ok (.if_icmp .ge 32, 3) := by decide +kernel
theorem dMo_form_204 : decode mMo_form.2.1 204 = .ok (.aload_n 0, 1) := by decide +kernel
theorem dMo_form_205 : decode mMo_form.2.1 205 = .ok (.iload_n 1, 1) := by decide +kernel
theorem dMo_form_206 : decode mMo_form.2.1 206 = .ok (.iload_n 2, 1) := by decide +kernel
theorem dMo_form_207 : decode mMo_form.2.1 207 = .ok (.iload 4, 2) := by decide +kernel
theorem dMo_form_209 : decode mMo_form.2.1 209 = .ok (.iload 5, 2) := by decide +kernel
theorem dMo_form_211 : decode mMo_form.2.1 211 = .ok (.invokevirtual 257, 3) := by decide +kernel
theorem dMo_form_214 : decode mMo_form.2.1 214 = .ok (.ifCond .eq 13, 3) := by decide +kernel
theorem dMo_form_217 : decode mMo_form.2.1 217 = .ok (.aload_n 0, 1) := by decide +kernel
theorem dMo_form_218 : decode mMo_form.2.1 218 = .ok (.iload_n 1, 1) := by decide +kernel
theorem dMo_form_219 : decode mMo_form.2.1 219 = .ok (.iload_n 2, 1) := by decide +kernel
theorem dMo_form_220 : decode mMo_form.2.1 220 = .ok (.iload 4, 2) := by decide +kernel
theorem dMo_form_222 : decode mMo_form.2.1 222 = .ok (.iload 5, 2) := by decide +kernel
theorem dMo_form_224 : decode mMo_form.2.1 224 = .ok (.invokevirtual 261, 3) := by decide +kernel
theorem dMo_form_227 : decode mMo_form.2.1 227 = .ok (.iinc 5 1, 3) := by decide +kernel
theorem dMo_form_230 : decode mMo_form.2.1 230 = .ok (.goto (-33), 3) := by decide +kernel
theorem dMo_form_233 : decode mMo_form.2.1 233 = .ok (.iinc 4 1, 3) := by decide +kernel
theorem dMo_form_236 : decode mMo_form.2.1 236 = .ok (.goto (-53), 3) := by decide +kernel
theorem dMo_form_239 : decode mMo_form.2.1 239 = .ok (.iinc 3 1, 3) := by decide +kernel
theorem dMo_form_242 : decode mMo_form.2.1 242 = .ok (.goto (-67), 3) := by decide +kernel
theorem dMo_form_245 : decode mMo_form.2.1 245 = .ok (.return_, 1) := by decide +kernel
def lMo_form_9 (a1 : Int32) (a2 : Int32) (a3 : Int32) : List Slot := [.val (.ref 193), .val (.int a1), .val (.int a2), .val (.int a3), .unset, .unset]
def lMo_form_43 (a1 : Int32) (a2 : Int32) (a3 : Int32) (w4 : Slot) (w5 : Slot) : List Slot := [.val (.ref 193), .val (.int a1), .val (.int a2), .val (.int a3), w4, w5]
def lMo_form_69 (a1 : Int32) (a2 : Int32) (a3 : Int32) (w4 : Slot) (w5 : Slot) : List Slot := [.val (.ref 193), .val (.int a1), .val (.int a2), .val (.int a3), w4, w5]
def lMo_form_82 (a1 : Int32) (a2 : Int32) (a3 : Int32) (a4 : Int32) (w5 : Slot) : List Slot := [.val (.ref 193), .val (.int a1), .val (.int a2), .val (.int a3), .val (.int a4), w5]
def lMo_form_102 (a1 : Int32) (a2 : Int32) (a3 : Int32) (a4 : Int32) (a5 : Int32) : List Slot := [.val (.ref 193), .val (.int a1), .val (.int a2), .val (.int a3), .val (.int a4), .val (.int a5)]
def lMo_form_112 (a1 : Int32) (a2 : Int32) (a3 : Int32) (w4 : Slot) (w5 : Slot) : List Slot := [.val (.ref 193), .val (.int a1), .val (.int a2), .val (.int a3), w4, w5]
def lMo_form_137 (a1 : Int32) (a2 : Int32) (a3 : Int32) (w4 : Slot) (w5 : Slot) : List Slot := [.val (.ref 193), .val (.int a1), .val (.int a2), .val (.int a3), w4, w5]
def lMo_form_146 (a1 : Int32) (a2 : Int32) (a3 : Int32) (w4 : Slot) (w5 : Slot) : List Slot := [.val (.ref 193), .val (.int a1), .val (.int a2), .val (.int a3), w4, w5]
def lMo_form_175 (a1 : Int32) (a2 : Int32) (a3 : Int32) (w4 : Slot) (w5 : Slot) : List Slot := [.val (.ref 193), .val (.int a1), .val (.int a2), .val (.int a3), w4, w5]
def lMo_form_183 (a1 : Int32) (a2 : Int32) (a3 : Int32) (a4 : Int32) (w5 : Slot) : List Slot := [.val (.ref 193), .val (.int a1), .val (.int a2), .val (.int a3), .val (.int a4), w5]
def lMo_form_197 (a1 : Int32) (a2 : Int32) (a3 : Int32) (a4 : Int32) (a5 : Int32) : List Slot := [.val (.ref 193), .val (.int a1), .val (.int a2), .val (.int a3), .val (.int a4), .val (.int a5)]
def lMo_form_214 (a1 : Int32) (a2 : Int32) (a3 : Int32) (a4 : Int32) (a5 : Int32) : List Slot := [.val (.ref 193), .val (.int a1), .val (.int a2), .val (.int a3), .val (.int a4), .val (.int a5)]
def lMo_form_227 (a1 : Int32) (a2 : Int32) (a3 : Int32) (a4 : Int32) (a5 : Int32) : List Slot := [.val (.ref 193), .val (.int a1), .val (.int a2), .val (.int a3), .val (.int a4), .val (.int a5)]
theorem bMo_form_0 {a1 : Int32} {a2 : Int32} (hX : X.length = 13) (h1 : inx a1 2) (k2 : QW d mMo_form 9 (lMo_form_9 a1 a2 0) [] (hpo X (mup mem 221 (Int32.toNatClampNeg a1) 0) sw o e) P) : QW d mMo_form 0 (qen 6 [.ref 193, .int a1, .int a2]) [] (hpo X mem sw o e) P := by
  show QW d mMo_form 0 [.val (.ref 193), .val (.int a1), .val (.int a2), .unset, .unset, .unset] [] (hpo X mem sw o e) P
  refine QW.aload_n dMo_form_0 rfl rfl ?_
  refine MW.getr (r' := 221) hX dMo_form_1 fMo_97 rfl rfl (by cases sw <;> rfl) ?_
  refine QW.iload_n dMo_form_4 rfl rfl ?_
  refine QW.iconst (v := 0) dMo_form_5 (by decide) ?_
  refine MW.iast hX dMo_form_6 rfl h1.1 (rep_get h1.2) ?_
  refine QW.iconst (v := 0) dMo_form_7 (by decide) ?_
  refine QW.istore_n (ls' := [.val (.ref 193), .val (.int a1), .val (.int a2), .val (.int 0), .unset, .unset]) dMo_form_8 rfl rfl ?_
  exact k2
theorem bMo_form_9 {a1 : Int32} {a2 : Int32} {a3 : Int32} (hX : X.length = 13) (k1 : (32 ≤ a3) → QW d mMo_form 43 (lMo_form_43 a1 a2 (6 * a2) .unset .unset) [] (hpo X mem sw o e) P) (h2 : (¬ 32 ≤ a3) → inx ((32 * a1) + a3) 64) (k3 : (¬ 32 ≤ a3) → QW d mMo_form 9 (lMo_form_9 a1 a2 (a3 + 1)) [] (hpo X (mup mem 219 (Int32.toNatClampNeg ((32 * a1) + a3)) ((32 * a1) + a3)) sw o e) P) : QW d mMo_form 9 (lMo_form_9 a1 a2 a3) [] (hpo X mem sw o e) P := by
  show QW d mMo_form 9 [.val (.ref 193), .val (.int a1), .val (.int a2), .val (.int a3), .unset, .unset] [] (hpo X mem sw o e) P
  refine QW.iload_n dMo_form_9 rfl rfl ?_
  refine QW.bipush (v := 32) dMo_form_10 (by decide) ?_
  refine QW.icmp_ge (tgt := 38) dMo_form_12 (by decide) (fun z0 => ?_) (fun z0 => ?_)
  · refine QW.bipush (v := 6) dMo_form_38 (by decide) ?_
    refine QW.iload_n dMo_form_40 rfl rfl ?_
    refine QW.imul dMo_form_41 ?_
    refine QW.istore_n (ls' := [.val (.ref 193), .val (.int a1), .val (.int a2), .val (.int (6 * a2)), .unset, .unset]) dMo_form_42 rfl rfl ?_
    exact (k1 z0)
  · refine QW.aload_n dMo_form_15 rfl rfl ?_
    refine MW.getr (r' := 219) hX dMo_form_16 fMo_91 rfl rfl (by cases sw <;> rfl) ?_
    refine QW.bipush (v := 32) dMo_form_19 (by decide) ?_
    refine QW.iload_n dMo_form_21 rfl rfl ?_
    refine QW.imul dMo_form_22 ?_
    refine QW.iload_n dMo_form_23 rfl rfl ?_
    refine QW.iadd dMo_form_24 ?_
    refine QW.bipush (v := 32) dMo_form_25 (by decide) ?_
    refine QW.iload_n dMo_form_27 rfl rfl ?_
    refine QW.imul dMo_form_28 ?_
    refine QW.iload_n dMo_form_29 rfl rfl ?_
    refine QW.iadd dMo_form_30 ?_
    refine MW.iast hX dMo_form_31 rfl (h2 z0).1 (rep_get (h2 z0).2) ?_
    refine MW.iinc (c := 1) (ls' := [.val (.ref 193), .val (.int a1), .val (.int a2), .val (.int (a3 + 1)), .unset, .unset]) dMo_form_32 (by decide) rfl rfl ?_
    refine QW.goto (tgt := 9) dMo_form_35 (by decide) ?_
    exact (k3 z0)
theorem bMo_form_43 {a1 : Int32} {a2 : Int32} {a3 : Int32} {w4 : Slot} {w5 : Slot} (hX : X.length = 13) (hw4 : qfr w4) (hw5 : qfr w5) (h1 : inx a2 15) (k2 : (((6 * a2) + (mem 207 (Int32.toNatClampNeg a2))) ≤ a3) → QW (d + 1) mMo_form 112 (lMo_form_112 a1 a2 (3 * a2) w4 w5) [] (hpo X mem sw o e) P) (h3 : (¬ ((6 * a2) + (mem 207 (Int32.toNatClampNeg a2))) ≤ a3) → inx a3 90) (k4 : (¬ ((6 * a2) + (mem 207 (Int32.toNatClampNeg a2))) ≤ a3) → QW d mMo_node 0 (qen 4 [.ref 193, .int a1, .int (mem 208 (Int32.toNatClampNeg a3))]) [] (hpo X mem sw o e) (qcl d mMo_form 66 69 (lMo_form_69 a1 a2 a3 w4 w5) [] P)) : QW (d + 1) mMo_form 43 (lMo_form_43 a1 a2 a3 w4 w5) [] (hpo X mem sw o e) P := by
  show QW (d + 1) mMo_form 43 [.val (.ref 193), .val (.int a1), .val (.int a2), .val (.int a3), w4, w5] [] (hpo X mem sw o e) P
  refine QW.iload_n dMo_form_43 rfl rfl ?_
  refine QW.bipush (v := 6) dMo_form_44 (by decide) ?_
  refine QW.iload_n dMo_form_46 rfl rfl ?_
  refine QW.imul dMo_form_47 ?_
  refine QW.aload_n dMo_form_48 rfl rfl ?_
  refine MW.getr (r' := 207) hX dMo_form_49 fMo_55 rfl rfl (by cases sw <;> rfl) ?_
  refine QW.iload_n dMo_form_52 rfl rfl ?_
  refine MW.iald hX dMo_form_53 rfl h1.1 (rep_get h1.2) ?_
  refine QW.iadd dMo_form_54 ?_
  refine QW.icmp_ge (tgt := 108) dMo_form_55 (by decide) (fun z0 => ?_) (fun z0 => ?_)
  · refine QW.iconst (v := 3) dMo_form_108 (by decide) ?_
    refine QW.iload_n dMo_form_109 rfl rfl ?_
    refine QW.imul dMo_form_110 ?_
    refine QW.istore_n (ls' := [.val (.ref 193), .val (.int a1), .val (.int a2), .val (.int (3 * a2)), w4, w5]) dMo_form_111 rfl rfl ?_
    exact (k2 z0)
  · refine QW.aload_n dMo_form_58 rfl rfl ?_
    refine QW.iload_n dMo_form_59 rfl rfl ?_
    refine QW.aload_n dMo_form_60 rfl rfl ?_
    refine MW.getr (r' := 208) hX dMo_form_61 fMo_58 rfl rfl (by cases sw <;> rfl) ?_
    refine QW.iload_n dMo_form_64 rfl rfl ?_
    refine MW.iald hX dMo_form_65 rfl (h3 z0).1 (rep_get (h3 z0).2) ?_
    exact MW.calV (as := [.int a1, .int (mem 208 (Int32.toNatClampNeg a3))]) (rest := []) hX dMo_form_66 eMo_node lMo_250 iMo_node vMo_node rfl rfl rfl rfl rfl rfl (Nat.le_of_ble_eq_true rfl) rfl (k4 z0)
theorem bMo_form_69 {a1 : Int32} {a2 : Int32} {a3 : Int32} {w4 : Slot} {w5 : Slot} {s0 : Int32} (hX : X.length = 13) (hw4 : qfr w4) (hw5 : qfr w5) (h1 : inx a3 90) (k2 : QW d mMo_node 0 (qen 4 [.ref 193, .int a1, .int (mem 209 (Int32.toNatClampNeg a3))]) [] (hpo X mem sw o e) (qcl d mMo_form 79 82 (lMo_form_82 a1 a2 a3 s0 w5) [] P)) : QW (d + 1) mMo_form 69 (lMo_form_69 a1 a2 a3 w4 w5) [.int s0] (hpo X mem sw o e) P := by
  show QW (d + 1) mMo_form 69 [.val (.ref 193), .val (.int a1), .val (.int a2), .val (.int a3), w4, w5] [.int s0] (hpo X mem sw o e) P
  refine QW.istore (ls' := [.val (.ref 193), .val (.int a1), .val (.int a2), .val (.int a3), .val (.int s0), w5]) dMo_form_69 (by rcases hw4 with z | ⟨_, z⟩ | ⟨_, z⟩ <;> subst z <;> rfl) ?_
  refine QW.aload_n dMo_form_71 rfl rfl ?_
  refine QW.iload_n dMo_form_72 rfl rfl ?_
  refine QW.aload_n dMo_form_73 rfl rfl ?_
  refine MW.getr (r' := 209) hX dMo_form_74 fMo_61 rfl rfl (by cases sw <;> rfl) ?_
  refine QW.iload_n dMo_form_77 rfl rfl ?_
  refine MW.iald hX dMo_form_78 rfl h1.1 (rep_get h1.2) ?_
  exact MW.calV (as := [.int a1, .int (mem 209 (Int32.toNatClampNeg a3))]) (rest := []) hX dMo_form_79 eMo_node lMo_250 iMo_node vMo_node rfl rfl rfl rfl rfl rfl (Nat.le_of_ble_eq_true rfl) rfl k2
theorem bMo_form_82 {a1 : Int32} {a2 : Int32} {a3 : Int32} {a4 : Int32} {w5 : Slot} {s0 : Int32} (hX : X.length = 13) (hw5 : qfr w5) (h1 : inx a3 90) (k2 : (¬ (mem 210 (Int32.toNatClampNeg a3)) = 0) → QW (d + 1) mMo_form 102 (lMo_form_102 a1 a2 a3 a4 s0) [] (hpo X mem sw o e) P) (k3 : ((mem 210 (Int32.toNatClampNeg a3)) = 0) → QW d mMo_unite 0 (qen 7 [.ref 193, .int a1, .int a4, .int s0]) [] (hpo X mem sw o e) (qcl d mMo_form 99 102 (lMo_form_102 a1 a2 a3 a4 s0) [] P)) : QW (d + 1) mMo_form 82 (lMo_form_82 a1 a2 a3 a4 w5) [.int s0] (hpo X mem sw o e) P := by
  show QW (d + 1) mMo_form 82 [.val (.ref 193), .val (.int a1), .val (.int a2), .val (.int a3), .val (.int a4), w5] [.int s0] (hpo X mem sw o e) P
  refine QW.istore (ls' := [.val (.ref 193), .val (.int a1), .val (.int a2), .val (.int a3), .val (.int a4), .val (.int s0)]) dMo_form_82 (by rcases hw5 with z | ⟨_, z⟩ | ⟨_, z⟩ <;> subst z <;> rfl) ?_
  refine QW.aload_n dMo_form_84 rfl rfl ?_
  refine MW.getr (r' := 210) hX dMo_form_85 fMo_64 rfl rfl (by cases sw <;> rfl) ?_
  refine QW.iload_n dMo_form_88 rfl rfl ?_
  refine MW.zald hX dMo_form_89 rfl h1.1 (rep_get h1.2) ?_
  refine QW.if_ne (tgt := 102) dMo_form_90 (by decide) (fun z0 => ?_) (fun z0 => ?_)
  · exact (k2 z0)
  · refine QW.aload_n dMo_form_93 rfl rfl ?_
    refine QW.iload_n dMo_form_94 rfl rfl ?_
    refine QW.iload dMo_form_95 rfl ?_
    refine QW.iload dMo_form_97 rfl ?_
    exact MW.calV (as := [.int a1, .int a4, .int s0]) (rest := []) hX dMo_form_99 eMo_unite lMo_253 iMo_unite vMo_unite rfl rfl rfl rfl rfl rfl (Nat.le_of_ble_eq_true rfl) rfl (k3 z0)
theorem bMo_form_102 {a1 : Int32} {a2 : Int32} {a3 : Int32} {a4 : Int32} {a5 : Int32} (hX : X.length = 13) (k1 : QW d mMo_form 43 (lMo_form_43 a1 a2 (a3 + 1) (.val (.int a4)) (.val (.int a5))) [] (hpo X mem sw o e) P) : QW d mMo_form 102 (lMo_form_102 a1 a2 a3 a4 a5) [] (hpo X mem sw o e) P := by
  show QW d mMo_form 102 [.val (.ref 193), .val (.int a1), .val (.int a2), .val (.int a3), .val (.int a4), .val (.int a5)] [] (hpo X mem sw o e) P
  refine MW.iinc (c := 1) (ls' := [.val (.ref 193), .val (.int a1), .val (.int a2), .val (.int (a3 + 1)), .val (.int a4), .val (.int a5)]) dMo_form_102 (by decide) rfl rfl ?_
  refine QW.goto (tgt := 43) dMo_form_105 (by decide) ?_
  exact k1
theorem bMo_form_112 {a1 : Int32} {a2 : Int32} {a3 : Int32} {w4 : Slot} {w5 : Slot} (hX : X.length = 13) (hw4 : qfr w4) (hw5 : qfr w5) (h1 : inx a2 15) (k2 : (((3 * a2) + (mem 202 (Int32.toNatClampNeg a2))) ≤ a3) → QW (d + 1) mMo_form 146 (lMo_form_146 a1 a2 0 w4 w5) [] (hpo X mem sw o e) P) (h3 : (¬ ((3 * a2) + (mem 202 (Int32.toNatClampNeg a2))) ≤ a3) → inx a3 45) (k4 : (¬ ((3 * a2) + (mem 202 (Int32.toNatClampNeg a2))) ≤ a3) → QW d mMo_node 0 (qen 4 [.ref 193, .int a1, .int (mem 203 (Int32.toNatClampNeg a3))]) [] (hpo X mem sw o e) (qcl d mMo_form 134 137 (lMo_form_137 a1 a2 a3 w4 w5) [] P)) : QW (d + 1) mMo_form 112 (lMo_form_112 a1 a2 a3 w4 w5) [] (hpo X mem sw o e) P := by
  show QW (d + 1) mMo_form 112 [.val (.ref 193), .val (.int a1), .val (.int a2), .val (.int a3), w4, w5] [] (hpo X mem sw o e) P
  refine QW.iload_n dMo_form_112 rfl rfl ?_
  refine QW.iconst (v := 3) dMo_form_113 (by decide) ?_
  refine QW.iload_n dMo_form_114 rfl rfl ?_
  refine QW.imul dMo_form_115 ?_
  refine QW.aload_n dMo_form_116 rfl rfl ?_
  refine MW.getr (r' := 202) hX dMo_form_117 fMo_40 rfl rfl (by cases sw <;> rfl) ?_
  refine QW.iload_n dMo_form_120 rfl rfl ?_
  refine MW.iald hX dMo_form_121 rfl h1.1 (rep_get h1.2) ?_
  refine QW.iadd dMo_form_122 ?_
  refine QW.icmp_ge (tgt := 144) dMo_form_123 (by decide) (fun z0 => ?_) (fun z0 => ?_)
  · refine QW.iconst (v := 0) dMo_form_144 (by decide) ?_
    refine QW.istore_n (ls' := [.val (.ref 193), .val (.int a1), .val (.int a2), .val (.int 0), w4, w5]) dMo_form_145 rfl rfl ?_
    exact (k2 z0)
  · refine QW.aload_n dMo_form_126 rfl rfl ?_
    refine QW.iload_n dMo_form_127 rfl rfl ?_
    refine QW.aload_n dMo_form_128 rfl rfl ?_
    refine MW.getr (r' := 203) hX dMo_form_129 fMo_43 rfl rfl (by cases sw <;> rfl) ?_
    refine QW.iload_n dMo_form_132 rfl rfl ?_
    refine MW.iald hX dMo_form_133 rfl (h3 z0).1 (rep_get (h3 z0).2) ?_
    exact MW.calV (as := [.int a1, .int (mem 203 (Int32.toNatClampNeg a3))]) (rest := []) hX dMo_form_134 eMo_node lMo_250 iMo_node vMo_node rfl rfl rfl rfl rfl rfl (Nat.le_of_ble_eq_true rfl) rfl (k4 z0)
theorem bMo_form_137 {a1 : Int32} {a2 : Int32} {a3 : Int32} {w4 : Slot} {w5 : Slot} {s0 : Int32} (hX : X.length = 13) (hw4 : qfr w4) (hw5 : qfr w5) (k1 : QW d mMo_form 112 (lMo_form_112 a1 a2 (a3 + 1) w4 w5) [] (hpo X mem sw o e) P) : QW d mMo_form 137 (lMo_form_137 a1 a2 a3 w4 w5) [.int s0] (hpo X mem sw o e) P := by
  show QW d mMo_form 137 [.val (.ref 193), .val (.int a1), .val (.int a2), .val (.int a3), w4, w5] [.int s0] (hpo X mem sw o e) P
  refine QW.pop dMo_form_137 rfl ?_
  refine MW.iinc (c := 1) (ls' := [.val (.ref 193), .val (.int a1), .val (.int a2), .val (.int (a3 + 1)), w4, w5]) dMo_form_138 (by decide) rfl rfl ?_
  refine QW.goto (tgt := 112) dMo_form_141 (by decide) ?_
  exact k1
theorem bMo_form_146 {a1 : Int32} {a2 : Int32} {a3 : Int32} {w4 : Slot} {w5 : Slot} (hX : X.length = 13) (hw4 : qfr w4) (hw5 : qfr w5) (h1 : inx a2 15) (k2 : ((mem 204 (Int32.toNatClampNeg a2)) ≤ a3) → QW d mMo_form 175 (lMo_form_175 a1 a2 0 w4 w5) [] (hpo X mem sw o e) P) (h3 : (¬ (mem 204 (Int32.toNatClampNeg a2)) ≤ a3) → inx ((4 * a1) + a3) 8) (k4 : (¬ (mem 204 (Int32.toNatClampNeg a2)) ≤ a3) → QW d mMo_form 146 (lMo_form_146 a1 a2 (a3 + 1) w4 w5) [] (hpo X (mup mem 222 (Int32.toNatClampNeg ((4 * a1) + a3)) a3) sw o e) P) : QW d mMo_form 146 (lMo_form_146 a1 a2 a3 w4 w5) [] (hpo X mem sw o e) P := by
  show QW d mMo_form 146 [.val (.ref 193), .val (.int a1), .val (.int a2), .val (.int a3), w4, w5] [] (hpo X mem sw o e) P
  refine QW.iload_n dMo_form_146 rfl rfl ?_
  refine QW.aload_n dMo_form_147 rfl rfl ?_
  refine MW.getr (r' := 204) hX dMo_form_148 fMo_46 rfl rfl (by cases sw <;> rfl) ?_
  refine QW.iload_n dMo_form_151 rfl rfl ?_
  refine MW.iald hX dMo_form_152 rfl h1.1 (rep_get h1.2) ?_
  refine QW.icmp_ge (tgt := 173) dMo_form_153 (by decide) (fun z0 => ?_) (fun z0 => ?_)
  · refine QW.iconst (v := 0) dMo_form_173 (by decide) ?_
    refine QW.istore_n (ls' := [.val (.ref 193), .val (.int a1), .val (.int a2), .val (.int 0), w4, w5]) dMo_form_174 rfl rfl ?_
    exact (k2 z0)
  · refine QW.aload_n dMo_form_156 rfl rfl ?_
    refine MW.getr (r' := 222) hX dMo_form_157 fMo_100 rfl rfl (by cases sw <;> rfl) ?_
    refine QW.iconst (v := 4) dMo_form_160 (by decide) ?_
    refine QW.iload_n dMo_form_161 rfl rfl ?_
    refine QW.imul dMo_form_162 ?_
    refine QW.iload_n dMo_form_163 rfl rfl ?_
    refine QW.iadd dMo_form_164 ?_
    refine QW.iload_n dMo_form_165 rfl rfl ?_
    refine MW.iast hX dMo_form_166 rfl (h3 z0).1 (rep_get (h3 z0).2) ?_
    refine MW.iinc (c := 1) (ls' := [.val (.ref 193), .val (.int a1), .val (.int a2), .val (.int (a3 + 1)), w4, w5]) dMo_form_167 (by decide) rfl rfl ?_
    refine QW.goto (tgt := 146) dMo_form_170 (by decide) ?_
    exact (k4 z0)
theorem bMo_form_175 {a1 : Int32} {a2 : Int32} {a3 : Int32} {w4 : Slot} {w5 : Slot} (hX : X.length = 13) (hw4 : qfr w4) (hw5 : qfr w5) (k1 : (4 ≤ a3) → P (.inl none, (hpo X mem sw o e))) (k2 : (¬ 4 ≤ a3) → QW d mMo_form 183 (lMo_form_183 a1 a2 a3 0 w5) [] (hpo X mem sw o e) P) : QW d mMo_form 175 (lMo_form_175 a1 a2 a3 w4 w5) [] (hpo X mem sw o e) P := by
  show QW d mMo_form 175 [.val (.ref 193), .val (.int a1), .val (.int a2), .val (.int a3), w4, w5] [] (hpo X mem sw o e) P
  refine QW.iload_n dMo_form_175 rfl rfl ?_
  refine QW.iconst (v := 4) dMo_form_176 (by decide) ?_
  refine QW.icmp_ge (tgt := 245) dMo_form_177 (by decide) (fun z0 => ?_) (fun z0 => ?_)
  · exact QW.vret dMo_form_245 rfl (k1 z0)
  · refine QW.iconst (v := 0) dMo_form_180 (by decide) ?_
    refine QW.istore (ls' := [.val (.ref 193), .val (.int a1), .val (.int a2), .val (.int a3), .val (.int 0), w5]) dMo_form_181 (by rcases hw4 with z | ⟨_, z⟩ | ⟨_, z⟩ <;> subst z <;> rfl) ?_
    exact (k2 z0)
theorem bMo_form_183 {a1 : Int32} {a2 : Int32} {a3 : Int32} {a4 : Int32} {w5 : Slot} (hX : X.length = 13) (hw5 : qfr w5) (h1 : inx a2 15) (k2 : ((mem 204 (Int32.toNatClampNeg a2)) ≤ a4) → QW d mMo_form 175 (lMo_form_175 a1 a2 (a3 + 1) (.val (.int a4)) w5) [] (hpo X mem sw o e) P) (k3 : (¬ (mem 204 (Int32.toNatClampNeg a2)) ≤ a4) → QW d mMo_form 197 (lMo_form_197 a1 a2 a3 a4 0) [] (hpo X mem sw o e) P) : QW d mMo_form 183 (lMo_form_183 a1 a2 a3 a4 w5) [] (hpo X mem sw o e) P := by
  show QW d mMo_form 183 [.val (.ref 193), .val (.int a1), .val (.int a2), .val (.int a3), .val (.int a4), w5] [] (hpo X mem sw o e) P
  refine QW.iload dMo_form_183 rfl ?_
  refine QW.aload_n dMo_form_185 rfl rfl ?_
  refine MW.getr (r' := 204) hX dMo_form_186 fMo_46 rfl rfl (by cases sw <;> rfl) ?_
  refine QW.iload_n dMo_form_189 rfl rfl ?_
  refine MW.iald hX dMo_form_190 rfl h1.1 (rep_get h1.2) ?_
  refine QW.icmp_ge (tgt := 239) dMo_form_191 (by decide) (fun z0 => ?_) (fun z0 => ?_)
  · refine MW.iinc (c := 1) (ls' := [.val (.ref 193), .val (.int a1), .val (.int a2), .val (.int (a3 + 1)), .val (.int a4), w5]) dMo_form_239 (by decide) rfl rfl ?_
    refine QW.goto (tgt := 175) dMo_form_242 (by decide) ?_
    exact (k2 z0)
  · refine QW.iconst (v := 0) dMo_form_194 (by decide) ?_
    refine QW.istore (ls' := [.val (.ref 193), .val (.int a1), .val (.int a2), .val (.int a3), .val (.int a4), .val (.int 0)]) dMo_form_195 (by rcases hw5 with z | ⟨_, z⟩ | ⟨_, z⟩ <;> subst z <;> rfl) ?_
    exact (k3 z0)
theorem bMo_form_197 {a1 : Int32} {a2 : Int32} {a3 : Int32} {a4 : Int32} {a5 : Int32} (hX : X.length = 13) (k1 : (a4 ≤ a5) → QW (d + 1) mMo_form 183 (lMo_form_183 a1 a2 a3 (a4 + 1) (.val (.int a5))) [] (hpo X mem sw o e) P) (k2 : (¬ a4 ≤ a5) → QW d mMo_areOne 0 (qen 8 [.ref 193, .int a1, .int a2, .int a4, .int a5]) [] (hpo X mem sw o e) (qcl d mMo_form 211 214 (lMo_form_214 a1 a2 a3 a4 a5) [] P)) : QW (d + 1) mMo_form 197 (lMo_form_197 a1 a2 a3 a4 a5) [] (hpo X mem sw o e) P := by
  show QW (d + 1) mMo_form 197 [.val (.ref 193), .val (.int a1), .val (.int a2), .val (.int a3), .val (.int a4), .val (.int a5)] [] (hpo X mem sw o e) P
  refine QW.iload dMo_form_197 rfl ?_
  refine QW.iload dMo_form_199 rfl ?_
  refine QW.icmp_ge (tgt := 233) dMo_form_201 (by decide) (fun z0 => ?_) (fun z0 => ?_)
  · refine MW.iinc (c := 1) (ls' := [.val (.ref 193), .val (.int a1), .val (.int a2), .val (.int a3), .val (.int (a4 + 1)), .val (.int a5)]) dMo_form_233 (by decide) rfl rfl ?_
    refine QW.goto (tgt := 183) dMo_form_236 (by decide) ?_
    exact (k1 z0)
  · refine QW.aload_n dMo_form_204 rfl rfl ?_
    refine QW.iload_n dMo_form_205 rfl rfl ?_
    refine QW.iload_n dMo_form_206 rfl rfl ?_
    refine QW.iload dMo_form_207 rfl ?_
    refine QW.iload dMo_form_209 rfl ?_
    exact MW.calV (as := [.int a1, .int a2, .int a4, .int a5]) (rest := []) hX dMo_form_211 eMo_areOne lMo_257 iMo_areOne vMo_areOne rfl rfl rfl rfl rfl rfl (Nat.le_of_ble_eq_true rfl) rfl (k2 z0)
theorem bMo_form_214 {a1 : Int32} {a2 : Int32} {a3 : Int32} {a4 : Int32} {a5 : Int32} {s0 : Int32} (hX : X.length = 13) (k1 : (s0 = 0) → QW (d + 1) mMo_form 227 (lMo_form_227 a1 a2 a3 a4 a5) [] (hpo X mem sw o e) P) (k2 : (¬ s0 = 0) → QW d mMo_join 0 (qen 8 [.ref 193, .int a1, .int a2, .int a4, .int a5]) [] (hpo X mem sw o e) (qcl d mMo_form 224 227 (lMo_form_227 a1 a2 a3 a4 a5) [] P)) : QW (d + 1) mMo_form 214 (lMo_form_214 a1 a2 a3 a4 a5) [.int s0] (hpo X mem sw o e) P := by
  show QW (d + 1) mMo_form 214 [.val (.ref 193), .val (.int a1), .val (.int a2), .val (.int a3), .val (.int a4), .val (.int a5)] [.int s0] (hpo X mem sw o e) P
  refine QW.if_eq (tgt := 227) dMo_form_214 (by decide) (fun z0 => ?_) (fun z0 => ?_)
  · exact (k1 z0)
  · refine QW.aload_n dMo_form_217 rfl rfl ?_
    refine QW.iload_n dMo_form_218 rfl rfl ?_
    refine QW.iload_n dMo_form_219 rfl rfl ?_
    refine QW.iload dMo_form_220 rfl ?_
    refine QW.iload dMo_form_222 rfl ?_
    exact MW.calV (as := [.int a1, .int a2, .int a4, .int a5]) (rest := []) hX dMo_form_224 eMo_join lMo_261 iMo_join vMo_join rfl rfl rfl rfl rfl rfl (Nat.le_of_ble_eq_true rfl) rfl (k2 z0)
theorem bMo_form_227 {a1 : Int32} {a2 : Int32} {a3 : Int32} {a4 : Int32} {a5 : Int32} (hX : X.length = 13) (k1 : QW d mMo_form 197 (lMo_form_197 a1 a2 a3 a4 (a5 + 1)) [] (hpo X mem sw o e) P) : QW d mMo_form 227 (lMo_form_227 a1 a2 a3 a4 a5) [] (hpo X mem sw o e) P := by
  show QW d mMo_form 227 [.val (.ref 193), .val (.int a1), .val (.int a2), .val (.int a3), .val (.int a4), .val (.int a5)] [] (hpo X mem sw o e) P
  refine MW.iinc (c := 1) (ls' := [.val (.ref 193), .val (.int a1), .val (.int a2), .val (.int a3), .val (.int a4), .val (.int (a5 + 1))]) dMo_form_227 (by decide) rfl rfl ?_
  refine QW.goto (tgt := 197) dMo_form_230 (by decide) ?_
  exact k1
theorem dMo_join_0 : decode mMo_join.2.1 0 = .ok (.iconst 0, 1) := by decide +kernel
theorem dMo_join_1 : decode mMo_join.2.1 1 = .ok (.istore 5, 2) := by decide +kernel
theorem dMo_join_3 : decode mMo_join.2.1 3 = .ok (.iload 5, 2) := by decide +kernel
theorem dMo_join_5 : decode mMo_join.2.1 5 = .ok (.aload_n 0, 1) := by decide +kernel
theorem dMo_join_6 : decode mMo_join.2.1 6 = .ok (.getfield 7, 3) := by decide +kernel
theorem dMo_join_9 : decode mMo_join.2.1 9 = .ok (.aload_n 0, 1) := by decide +kernel
theorem dMo_join_10 : decode mMo_join.2.1 10 = .ok (.getfield 49, 3) := by decide +kernel
theorem dMo_join_13 : decode mMo_join.2.1 13 = .ok (.iconst 4, 1) := by decide +kernel
theorem dMo_join_14 : decode mMo_join.2.1 14 = .ok (.iload_n 2, 1) := by decide +kernel
theorem dMo_join_15 : decode mMo_join.2.1 15 = .ok (.imul, 1) := by decide +kernel
theorem dMo_join_16 : decode mMo_join.2.1 16 = .ok (.iload_n 3, 1) := by decide +kernel
theorem dMo_join_17 : decode mMo_join.2.1 17 = .ok (.iadd, 1) := by decide +kernel
theorem dMo_join_18 : decode mMo_join.2.1 18 = .ok (.iaload, 1) := by decide +kernel
theorem dMo_join_19 : decode mMo_join.2.1 19 = .ok (.iaload, 1) := by decide +kernel
theorem dMo_join_20 : decode mMo_join.2.1 20 = .ok (.if_icmp .ge 37, 3) := by decide +kernel
theorem dMo_join_23 : decode mMo_join.2.1 23 = .ok (.aload_n 0, 1) := by decide +kernel
theorem dMo_join_24 : decode mMo_join.2.1 24 = .ok (.iload_n 1, 1) := by decide +kernel
theorem dMo_join_25 : decode mMo_join.2.1 25 = .ok (.bipush 32, 2) := by decide +kernel
theorem dMo_join_27 : decode mMo_join.2.1 27 = .ok (.iload_n 1, 1) := by decide +kernel
theorem dMo_join_28 : decode mMo_join.2.1 28 = .ok (.imul, 1) := by decide +kernel
theorem dMo_join_29 : decode mMo_join.2.1 29 = .ok (.iconst 3, 1) := by decide +kernel
theorem dMo_join_30 : decode mMo_join.2.1 30 = .ok (.iload_n 3, 1) := by decide +kernel
theorem dMo_join_31 : decode mMo_join.2.1 31 = .ok (.imul, 1) := by decide +kernel
theorem dMo_join_32 : decode mMo_join.2.1 32 = .ok (.iadd, 1) := by decide +kernel
theorem dMo_join_33 : decode mMo_join.2.1 33 = .ok (.iload 5, 2) := by decide +kernel
theorem dMo_join_35 : decode mMo_join.2.1 35 = .ok (.iadd, 1) := by decide +kernel
theorem dMo_join_36 : decode mMo_join.2.1 36 = .ok (.bipush 32, 2) := by decide +kernel
theorem dMo_join_38 : decode mMo_join.2.1 38 = .ok (.iload_n 1, 1) := by decide +kernel
theorem dMo_join_39 : decode mMo_join.2.1 39 = .ok (.imul, 1) := by decide +kernel
theorem dMo_join_40 : decode mMo_join.2.1 40 = .ok (.iconst 3, 1) := by decide +kernel
theorem dMo_join_41 : decode mMo_join.2.1 41 = .ok (.iload 4, 2) := by decide +kernel
theorem dMo_join_43 : decode mMo_join.2.1 43 = .ok (.imul, 1) := by decide +kernel
theorem dMo_join_44 : decode mMo_join.2.1 44 = .ok (.iadd, 1) := by decide +kernel
theorem dMo_join_45 : decode mMo_join.2.1 45 = .ok (.iload 5, 2) := by decide +kernel
theorem dMo_join_47 : decode mMo_join.2.1 47 = .ok (.iadd, 1) := by decide +kernel
theorem dMo_join_48 : decode mMo_join.2.1 48 = .ok (.invokevirtual 253, 3) := by decide +kernel
theorem dMo_join_51 : decode mMo_join.2.1 51 = .ok (.iinc 5 1, 3) := by decide +kernel
theorem dMo_join_54 : decode mMo_join.2.1 54 = .ok (.goto (-51), 3) := by decide +kernel
theorem dMo_join_57 : decode mMo_join.2.1 57 = .ok (.aload_n 0, 1) := by decide +kernel
theorem dMo_join_58 : decode mMo_join.2.1 58 = .ok (.getfield 100, 3) := by decide +kernel
theorem dMo_join_61 : decode mMo_join.2.1 61 = .ok (.iconst 4, 1) := by decide +kernel
theorem dMo_join_62 : decode mMo_join.2.1 62 = .ok (.iload_n 1, 1) := by decide +kernel
theorem dMo_join_63 : decode mMo_join.2.1 63 = .ok (.imul, 1) := by decide +kernel
theorem dMo_join_64 : decode mMo_join.2.1 64 = .ok (.iload_n 3, 1) := by decide +kernel
theorem dMo_join_65 : decode mMo_join.2.1 65 = .ok (.iadd, 1) := by decide +kernel
theorem dMo_join_66 : decode mMo_join.2.1 66 = .ok (.iaload, 1) := by decide +kernel
theorem dMo_join_67 : decode mMo_join.2.1 67 = .ok (.aload_n 0, 1) := by decide +kernel
theorem dMo_join_68 : decode mMo_join.2.1 68 = .ok (.getfield 100, 3) := by decide +kernel
theorem dMo_join_71 : decode mMo_join.2.1 71 = .ok (.iconst 4, 1) := by decide +kernel
theorem dMo_join_72 : decode mMo_join.2.1 72 = .ok (.iload_n 1, 1) := by decide +kernel
theorem dMo_join_73 : decode mMo_join.2.1 73 = .ok (.imul, 1) := by decide +kernel
theorem dMo_join_74 : decode mMo_join.2.1 74 = .ok (.iload 4, 2) := by decide +kernel
theorem dMo_join_76 : decode mMo_join.2.1 76 = .ok (.iadd, 1) := by decide +kernel
theorem dMo_join_77 : decode mMo_join.2.1 77 = .ok (.iaload, 1) := by decide +kernel
theorem dMo_join_78 : decode mMo_join.2.1 78 = .ok (.if_icmp .ge 17, 3) := by decide +kernel
theorem dMo_join_81 : decode mMo_join.2.1 81 = .ok (.aload_n 0, 1) := by decide +kernel
theorem dMo_join_82 : decode mMo_join.2.1 82 = .ok (.getfield 100, 3) := by decide +kernel
theorem dMo_join_85 : decode mMo_join.2.1 85 = .ok (.iconst 4, 1) := by decide +kernel
theorem dMo_join_86 : decode mMo_join.2.1 86 = .ok (.iload_n 1, 1) := by decide +kernel
theorem dMo_join_87 : decode mMo_join.2.1 87 = .ok (.imul, 1) := by decide +kernel
theorem dMo_join_88 : decode mMo_join.2.1 88 = .ok (.iload 4, 2) := by decide +kernel
theorem dMo_join_90 : decode mMo_join.2.1 90 = .ok (.iadd, 1) := by decide +kernel
theorem dMo_join_91 : decode mMo_join.2.1 91 = .ok (.iaload, 1) := by decide +kernel
theorem dMo_join_92 : decode mMo_join.2.1 92 = .ok (.goto 13, 3) := by decide +kernel
theorem dMo_join_95 : decode mMo_join.2.1 95 = .ok (.aload_n 0, 1) := by decide +kernel
theorem dMo_join_96 : decode mMo_join.2.1 96 = .ok (.getfield 100, 3) := by decide +kernel
theorem dMo_join_99 : decode mMo_join.2.1 99 = .ok (.iconst 4, 1) := by decide +kernel
theorem dMo_join_100 : decode mMo_join.2.1 100 = .ok (.iload_n 1, 1) := by decide +kernel
theorem dMo_join_101 : decode mMo_join.2.1 101 = .ok (.imul, 1) := by decide +kernel
theorem dMo_join_102 : decode mMo_join.2.1 102 = .ok (.iload_n 3, 1) := by decide +kernel
theorem dMo_join_103 : decode mMo_join.2.1 103 = .ok (.iadd, 1) := by decide +kernel
theorem dMo_join_104 : decode mMo_join.2.1 104 = .ok (.iaload, 1) := by decide +kernel
theorem dMo_join_105 : decode mMo_join.2.1 105 = .ok (.istore 5, 2) := by decide +kernel
theorem dMo_join_107 : decode mMo_join.2.1 107 = .ok (.aload_n 0, 1) := by decide +kernel
theorem dMo_join_108 : decode mMo_join.2.1 108 = .ok (.getfield 100, 3) := by decide +kernel
theorem dMo_join_111 : decode mMo_join.2.1 111 = .ok (.iconst 4, 1) := by decide +kernel
theorem dMo_join_112 : decode mMo_join.2.1 112 = .ok (.iload_n 1, 1) := by decide +kernel
theorem dMo_join_113 : decode mMo_join.2.1 113 = .ok (.imul, 1) := by decide +kernel
theorem dMo_join_114 : decode mMo_join.2.1 114 = .ok (.iload_n 3, 1) := by decide +kernel
theorem dMo_join_115 : decode mMo_join.2.1 115 = .ok (.iadd, 1) := by decide +kernel
theorem dMo_join_116 : decode mMo_join.2.1 116 = .ok (.iaload, 1) := by decide +kernel
theorem dMo_join_117 : decode mMo_join.2.1 117 = .ok (.aload_n 0, 1) := by decide +kernel
theorem dMo_join_118 : decode mMo_join.2.1 118 = .ok (.getfield 100, 3) := by decide +kernel
theorem dMo_join_121 : decode mMo_join.2.1 121 = .ok (.iconst 4, 1) := by decide +kernel
theorem dMo_join_122 : decode mMo_join.2.1 122 = .ok (.iload_n 1, 1) := by decide +kernel
theorem dMo_join_123 : decode mMo_join.2.1 123 = .ok (.imul, 1) := by decide +kernel
theorem dMo_join_124 : decode mMo_join.2.1 124 = .ok (.iload 4, 2) := by decide +kernel
theorem dMo_join_126 : decode mMo_join.2.1 126 = .ok (.iadd, 1) := by decide +kernel
theorem dMo_join_127 : decode mMo_join.2.1 127 = .ok (.iaload, 1) := by decide +kernel
theorem dMo_join_128 : decode mMo_join.2.1 128 = .ok (.if_icmp .ge 16, 3) := by decide +kernel
theorem dMo_join_131 : decode mMo_join.2.1 131 = .ok (.aload_n 0, 1) := by decide +kernel
theorem dMo_join_132 : decode mMo_join.2.1 132 = .ok (.getfield 100, 3) := by decide +kernel
theorem dMo_join_135 : decode mMo_join.2.1 135 = .ok (.iconst 4, 1) := by decide +kernel
theorem dMo_join_136 : decode mMo_join.2.1 136 = .ok (.iload_n 1, 1) := by decide +kernel
theorem dMo_join_137 : decode mMo_join.2.1 137 = .ok (.imul, 1) := by decide +kernel
theorem dMo_join_138 : decode mMo_join.2.1 138 = .ok (.iload_n 3, 1) := by decide +kernel
theorem dMo_join_139 : decode mMo_join.2.1 139 = .ok (.iadd, 1) := by decide +kernel
theorem dMo_join_140 : decode mMo_join.2.1 140 = .ok (.iaload, 1) := by decide +kernel
theorem dMo_join_141 : decode mMo_join.2.1 141 = .ok (.goto 14, 3) := by decide +kernel
theorem dMo_join_144 : decode mMo_join.2.1 144 = .ok (.aload_n 0, 1) := by decide +kernel
theorem dMo_join_145 : decode mMo_join.2.1 145 = .ok (.getfield 100, 3) := by decide +kernel
theorem dMo_join_148 : decode mMo_join.2.1 148 = .ok (.iconst 4, 1) := by decide +kernel
theorem dMo_join_149 : decode mMo_join.2.1 149 = .ok (.iload_n 1, 1) := by decide +kernel
theorem dMo_join_150 : decode mMo_join.2.1 150 = .ok (.imul, 1) := by decide +kernel
theorem dMo_join_151 : decode mMo_join.2.1 151 = .ok (.iload 4, 2) := by decide +kernel
theorem dMo_join_153 : decode mMo_join.2.1 153 = .ok (.iadd, 1) := by decide +kernel
theorem dMo_join_154 : decode mMo_join.2.1 154 = .ok (.iaload, 1) := by decide +kernel
theorem dMo_join_155 : decode mMo_join.2.1 155 = .ok (.istore 6, 2) := by decide +kernel
theorem dMo_join_157 : decode mMo_join.2.1 157 = .ok (.iconst 0, 1) := by decide +kernel
theorem dMo_join_158 : decode mMo_join.2.1 158 = .ok (.istore 7, 2) := by decide +kernel
theorem dMo_join_160 : decode mMo_join.2.1 160 = .ok (.iload 7, 2) := by decide +kernel
theorem dMo_join_162 : decode mMo_join.2.1 162 = .ok (.aload_n 0, 1) := by decide +kernel
theorem dMo_join_163 : decode mMo_join.2.1 163 = .ok (.getfield 46, 3) := by decide +kernel
theorem dMo_join_166 : decode mMo_join.2.1 166 = .ok (.iload_n 2, 1) := by decide +kernel
theorem dMo_join_167 : decode mMo_join.2.1 167 = .ok (.iaload, 1) := by decide +kernel
theorem dMo_join_168 : decode mMo_join.2.1 168 = .ok (.if_icmp .ge 52, 3) := by decide +kernel
theorem dMo_join_171 : decode mMo_join.2.1 171 = .ok (.aload_n 0, 1) := by decide +kernel
theorem dMo_join_172 : decode mMo_join.2.1 172 = .ok (.getfield 100, 3) := by decide +kernel
theorem dMo_join_175 : decode mMo_join.2.1 175 = .ok (.iconst 4, 1) := by decide +kernel
theorem dMo_join_176 : decode mMo_join.2.1 176 = .ok (.iload_n 1, 1) := by decide +kernel
theorem dMo_join_177 : decode mMo_join.2.1 177 = .ok (.imul, 1) := by decide +kernel
theorem dMo_join_178 : decode mMo_join.2.1 178 = .ok (.iload 7, 2) := by decide +kernel
theorem dMo_join_180 : decode mMo_join.2.1 180 = .ok (.iadd, 1) := by decide +kernel
theorem dMo_join_181 : decode mMo_join.2.1 181 = .ok (.aload_n 0, 1) := by decide +kernel
theorem dMo_join_182 : decode mMo_join.2.1 182 = .ok (.getfield 100, 3) := by decide +kernel
theorem dMo_join_185 : decode mMo_join.2.1 185 = .ok (.iconst 4, 1) := by decide +kernel
theorem dMo_join_186 : decode mMo_join.2.1 186 = .ok (.iload_n 1, 1) := by decide +kernel
theorem dMo_join_187 : decode mMo_join.2.1 187 = .ok (.imul, 1) := by decide +kernel
theorem dMo_join_188 : decode mMo_join.2.1 188 = .ok (.iload 7, 2) := by decide +kernel
theorem dMo_join_190 : decode mMo_join.2.1 190 = .ok (.iadd, 1) := by decide +kernel
theorem dMo_join_191 : decode mMo_join.2.1 191 = .ok (.iaload, 1) := by decide +kernel
theorem dMo_join_192 : decode mMo_join.2.1 192 = .ok (.iload 5, 2) := by decide +kernel
theorem dMo_join_194 : decode mMo_join.2.1 194 = .ok (.if_icmp .ne 8, 3) := by decide +kernel
theorem dMo_join_197 : decode mMo_join.2.1 197 = .ok (.iload 6, 2) := by decide +kernel
theorem dMo_join_199 : decode mMo_join.2.1 199 = .ok (.goto 14, 3) := by decide +kernel
theorem dMo_join_202 : decode mMo_join.2.1 202 = .ok (.aload_n 0, 1) := by decide +kernel
theorem dMo_join_203 : decode mMo_join.2.1 203 = .ok (.getfield 100, 3) := by decide +kernel
theorem dMo_join_206 : decode mMo_join.2.1 206 = .ok (.iconst 4, 1) := by decide +kernel
theorem dMo_join_207 : decode mMo_join.2.1 207 = .ok (.iload_n 1, 1) := by decide +kernel
theorem dMo_join_208 : decode mMo_join.2.1 208 = .ok (.imul, 1) := by decide +kernel
theorem dMo_join_209 : decode mMo_join.2.1 209 = .ok (.iload 7, 2) := by decide +kernel
theorem dMo_join_211 : decode mMo_join.2.1 211 = .ok (.iadd, 1) := by decide +kernel
theorem dMo_join_212 : decode mMo_join.2.1 212 = .ok (.iaload, 1) := by decide +kernel
theorem dMo_join_213 : decode mMo_join.2.1 213 = .ok (.iastore, 1) := by decide +kernel
theorem dMo_join_214 : decode mMo_join.2.1 214 = .ok (.iinc 7 1, 3) := by decide +kernel
theorem dMo_join_217 : decode mMo_join.2.1 217 = .ok (.goto (-57), 3) := by decide +kernel
theorem dMo_join_220 : decode mMo_join.2.1 220 = .ok (.return_, 1) := by decide +kernel
def lMo_join_3 (a1 : Int32) (a2 : Int32) (a3 : Int32) (a4 : Int32) (a5 : Int32) : List Slot := [.val (.ref 193), .val (.int a1), .val (.int a2), .val (.int a3), .val (.int a4), .val (.int a5), .unset, .unset]
def lMo_join_51 (a1 : Int32) (a2 : Int32) (a3 : Int32) (a4 : Int32) (a5 : Int32) : List Slot := [.val (.ref 193), .val (.int a1), .val (.int a2), .val (.int a3), .val (.int a4), .val (.int a5), .unset, .unset]
def lMo_join_105 (a1 : Int32) (a2 : Int32) (a3 : Int32) (a4 : Int32) (a5 : Int32) : List Slot := [.val (.ref 193), .val (.int a1), .val (.int a2), .val (.int a3), .val (.int a4), .val (.int a5), .unset, .unset]
def lMo_join_155 (a1 : Int32) (a2 : Int32) (a3 : Int32) (a4 : Int32) (a5 : Int32) : List Slot := [.val (.ref 193), .val (.int a1), .val (.int a2), .val (.int a3), .val (.int a4), .val (.int a5), .unset, .unset]
def lMo_join_160 (a1 : Int32) (a2 : Int32) (a3 : Int32) (a4 : Int32) (a5 : Int32) (a6 : Int32) (a7 : Int32) : List Slot := [.val (.ref 193), .val (.int a1), .val (.int a2), .val (.int a3), .val (.int a4), .val (.int a5), .val (.int a6), .val (.int a7)]
def lMo_join_213 (a1 : Int32) (a2 : Int32) (a3 : Int32) (a4 : Int32) (a5 : Int32) (a6 : Int32) (a7 : Int32) : List Slot := [.val (.ref 193), .val (.int a1), .val (.int a2), .val (.int a3), .val (.int a4), .val (.int a5), .val (.int a6), .val (.int a7)]
theorem bMo_join_0 {a1 : Int32} {a2 : Int32} {a3 : Int32} {a4 : Int32} (hX : X.length = 13) (k1 : QW d mMo_join 3 (lMo_join_3 a1 a2 a3 a4 0) [] (hpo X mem sw o e) P) : QW d mMo_join 0 (qen 8 [.ref 193, .int a1, .int a2, .int a3, .int a4]) [] (hpo X mem sw o e) P := by
  show QW d mMo_join 0 [.val (.ref 193), .val (.int a1), .val (.int a2), .val (.int a3), .val (.int a4), .unset, .unset, .unset] [] (hpo X mem sw o e) P
  refine QW.iconst (v := 0) dMo_join_0 (by decide) ?_
  refine QW.istore (ls' := [.val (.ref 193), .val (.int a1), .val (.int a2), .val (.int a3), .val (.int a4), .val (.int 0), .unset, .unset]) dMo_join_1 rfl ?_
  exact k1
theorem bMo_join_3 {a1 : Int32} {a2 : Int32} {a3 : Int32} {a4 : Int32} {a5 : Int32} (hX : X.length = 13) (h1 : inx ((4 * a2) + a3) 60) (h2 : inx (mem 205 (Int32.toNatClampNeg ((4 * a2) + a3))) 4) (h3 : ((mem 194 (Int32.toNatClampNeg (mem 205 (Int32.toNatClampNeg ((4 * a2) + a3))))) ≤ a5) → inx ((4 * a1) + a3) 8) (h4 : ((mem 194 (Int32.toNatClampNeg (mem 205 (Int32.toNatClampNeg ((4 * a2) + a3))))) ≤ a5) → inx ((4 * a1) + a4) 8) (h5 : ((mem 194 (Int32.toNatClampNeg (mem 205 (Int32.toNatClampNeg ((4 * a2) + a3))))) ≤ a5) → ((mem 222 (Int32.toNatClampNeg ((4 * a1) + a4))) ≤ (mem 222 (Int32.toNatClampNeg ((4 * a1) + a3)))) → inx ((4 * a1) + a3) 8) (k6 : ((mem 194 (Int32.toNatClampNeg (mem 205 (Int32.toNatClampNeg ((4 * a2) + a3))))) ≤ a5) → ((mem 222 (Int32.toNatClampNeg ((4 * a1) + a4))) ≤ (mem 222 (Int32.toNatClampNeg ((4 * a1) + a3)))) → QW (d + 1) mMo_join 105 (lMo_join_105 a1 a2 a3 a4 a5) [.int (mem 222 (Int32.toNatClampNeg ((4 * a1) + a3)))] (hpo X mem sw o e) P) (h7 : ((mem 194 (Int32.toNatClampNeg (mem 205 (Int32.toNatClampNeg ((4 * a2) + a3))))) ≤ a5) → (¬ (mem 222 (Int32.toNatClampNeg ((4 * a1) + a4))) ≤ (mem 222 (Int32.toNatClampNeg ((4 * a1) + a3)))) → inx ((4 * a1) + a4) 8) (k8 : ((mem 194 (Int32.toNatClampNeg (mem 205 (Int32.toNatClampNeg ((4 * a2) + a3))))) ≤ a5) → (¬ (mem 222 (Int32.toNatClampNeg ((4 * a1) + a4))) ≤ (mem 222 (Int32.toNatClampNeg ((4 * a1) + a3)))) → QW (d + 1) mMo_join 105 (lMo_join_105 a1 a2 a3 a4 a5) [.int (mem 222 (Int32.toNatClampNeg ((4 * a1) + a4)))] (hpo X mem sw o e) P) (k9 : (¬ (mem 194 (Int32.toNatClampNeg (mem 205 (Int32.toNatClampNeg ((4 * a2) + a3))))) ≤ a5) → QW d mMo_unite 0 (qen 7 [.ref 193, .int a1, .int (((32 * a1) + (3 * a3)) + a5), .int (((32 * a1) + (3 * a4)) + a5)]) [] (hpo X mem sw o e) (qcl d mMo_join 48 51 (lMo_join_51 a1 a2 a3 a4 a5) [] P)) : QW (d + 1) mMo_join 3 (lMo_join_3 a1 a2 a3 a4 a5) [] (hpo X mem sw o e) P := by
  show QW (d + 1) mMo_join 3 [.val (.ref 193), .val (.int a1), .val (.int a2), .val (.int a3), .val (.int a4), .val (.int a5), .unset, .unset] [] (hpo X mem sw o e) P
  refine QW.iload dMo_join_3 rfl ?_
  refine QW.aload_n dMo_join_5 rfl rfl ?_
  refine MW.getr (r' := 194) hX dMo_join_6 fMo_7 rfl rfl (by cases sw <;> rfl) ?_
  refine QW.aload_n dMo_join_9 rfl rfl ?_
  refine MW.getr (r' := 205) hX dMo_join_10 fMo_49 rfl rfl (by cases sw <;> rfl) ?_
  refine QW.iconst (v := 4) dMo_join_13 (by decide) ?_
  refine QW.iload_n dMo_join_14 rfl rfl ?_
  refine QW.imul dMo_join_15 ?_
  refine QW.iload_n dMo_join_16 rfl rfl ?_
  refine QW.iadd dMo_join_17 ?_
  refine MW.iald hX dMo_join_18 rfl h1.1 (rep_get h1.2) ?_
  refine MW.iald hX dMo_join_19 rfl h2.1 (rep_get h2.2) ?_
  refine QW.icmp_ge (tgt := 57) dMo_join_20 (by decide) (fun z0 => ?_) (fun z0 => ?_)
  · refine QW.aload_n dMo_join_57 rfl rfl ?_
    refine MW.getr (r' := 222) hX dMo_join_58 fMo_100 rfl rfl (by cases sw <;> rfl) ?_
    refine QW.iconst (v := 4) dMo_join_61 (by decide) ?_
    refine QW.iload_n dMo_join_62 rfl rfl ?_
    refine QW.imul dMo_join_63 ?_
    refine QW.iload_n dMo_join_64 rfl rfl ?_
    refine QW.iadd dMo_join_65 ?_
    refine MW.iald hX dMo_join_66 rfl (h3 z0).1 (rep_get (h3 z0).2) ?_
    refine QW.aload_n dMo_join_67 rfl rfl ?_
    refine MW.getr (r' := 222) hX dMo_join_68 fMo_100 rfl rfl (by cases sw <;> rfl) ?_
    refine QW.iconst (v := 4) dMo_join_71 (by decide) ?_
    refine QW.iload_n dMo_join_72 rfl rfl ?_
    refine QW.imul dMo_join_73 ?_
    refine QW.iload dMo_join_74 rfl ?_
    refine QW.iadd dMo_join_76 ?_
    refine MW.iald hX dMo_join_77 rfl (h4 z0).1 (rep_get (h4 z0).2) ?_
    refine QW.icmp_ge (tgt := 95) dMo_join_78 (by decide) (fun z1 => ?_) (fun z1 => ?_)
    · refine QW.aload_n dMo_join_95 rfl rfl ?_
      refine MW.getr (r' := 222) hX dMo_join_96 fMo_100 rfl rfl (by cases sw <;> rfl) ?_
      refine QW.iconst (v := 4) dMo_join_99 (by decide) ?_
      refine QW.iload_n dMo_join_100 rfl rfl ?_
      refine QW.imul dMo_join_101 ?_
      refine QW.iload_n dMo_join_102 rfl rfl ?_
      refine QW.iadd dMo_join_103 ?_
      refine MW.iald hX dMo_join_104 rfl (h5 z0 z1).1 (rep_get (h5 z0 z1).2) ?_
      exact (k6 z0 z1)
    · refine QW.aload_n dMo_join_81 rfl rfl ?_
      refine MW.getr (r' := 222) hX dMo_join_82 fMo_100 rfl rfl (by cases sw <;> rfl) ?_
      refine QW.iconst (v := 4) dMo_join_85 (by decide) ?_
      refine QW.iload_n dMo_join_86 rfl rfl ?_
      refine QW.imul dMo_join_87 ?_
      refine QW.iload dMo_join_88 rfl ?_
      refine QW.iadd dMo_join_90 ?_
      refine MW.iald hX dMo_join_91 rfl (h7 z0 z1).1 (rep_get (h7 z0 z1).2) ?_
      refine QW.goto (tgt := 105) dMo_join_92 (by decide) ?_
      exact (k8 z0 z1)
  · refine QW.aload_n dMo_join_23 rfl rfl ?_
    refine QW.iload_n dMo_join_24 rfl rfl ?_
    refine QW.bipush (v := 32) dMo_join_25 (by decide) ?_
    refine QW.iload_n dMo_join_27 rfl rfl ?_
    refine QW.imul dMo_join_28 ?_
    refine QW.iconst (v := 3) dMo_join_29 (by decide) ?_
    refine QW.iload_n dMo_join_30 rfl rfl ?_
    refine QW.imul dMo_join_31 ?_
    refine QW.iadd dMo_join_32 ?_
    refine QW.iload dMo_join_33 rfl ?_
    refine QW.iadd dMo_join_35 ?_
    refine QW.bipush (v := 32) dMo_join_36 (by decide) ?_
    refine QW.iload_n dMo_join_38 rfl rfl ?_
    refine QW.imul dMo_join_39 ?_
    refine QW.iconst (v := 3) dMo_join_40 (by decide) ?_
    refine QW.iload dMo_join_41 rfl ?_
    refine QW.imul dMo_join_43 ?_
    refine QW.iadd dMo_join_44 ?_
    refine QW.iload dMo_join_45 rfl ?_
    refine QW.iadd dMo_join_47 ?_
    exact MW.calV (as := [.int a1, .int (((32 * a1) + (3 * a3)) + a5), .int (((32 * a1) + (3 * a4)) + a5)]) (rest := []) hX dMo_join_48 eMo_unite lMo_253 iMo_unite vMo_unite rfl rfl rfl rfl rfl rfl (Nat.le_of_ble_eq_true rfl) rfl (k9 z0)
theorem bMo_join_51 {a1 : Int32} {a2 : Int32} {a3 : Int32} {a4 : Int32} {a5 : Int32} (hX : X.length = 13) (k1 : QW d mMo_join 3 (lMo_join_3 a1 a2 a3 a4 (a5 + 1)) [] (hpo X mem sw o e) P) : QW d mMo_join 51 (lMo_join_51 a1 a2 a3 a4 a5) [] (hpo X mem sw o e) P := by
  show QW d mMo_join 51 [.val (.ref 193), .val (.int a1), .val (.int a2), .val (.int a3), .val (.int a4), .val (.int a5), .unset, .unset] [] (hpo X mem sw o e) P
  refine MW.iinc (c := 1) (ls' := [.val (.ref 193), .val (.int a1), .val (.int a2), .val (.int a3), .val (.int a4), .val (.int (a5 + 1)), .unset, .unset]) dMo_join_51 (by decide) rfl rfl ?_
  refine QW.goto (tgt := 3) dMo_join_54 (by decide) ?_
  exact k1
theorem bMo_join_105 {a1 : Int32} {a2 : Int32} {a3 : Int32} {a4 : Int32} {a5 : Int32} {s0 : Int32} (hX : X.length = 13) (h1 : inx ((4 * a1) + a3) 8) (h2 : inx ((4 * a1) + a4) 8) (h3 : ((mem 222 (Int32.toNatClampNeg ((4 * a1) + a4))) ≤ (mem 222 (Int32.toNatClampNeg ((4 * a1) + a3)))) → inx ((4 * a1) + a4) 8) (k4 : ((mem 222 (Int32.toNatClampNeg ((4 * a1) + a4))) ≤ (mem 222 (Int32.toNatClampNeg ((4 * a1) + a3)))) → QW d mMo_join 155 (lMo_join_155 a1 a2 a3 a4 s0) [.int (mem 222 (Int32.toNatClampNeg ((4 * a1) + a4)))] (hpo X mem sw o e) P) (h5 : (¬ (mem 222 (Int32.toNatClampNeg ((4 * a1) + a4))) ≤ (mem 222 (Int32.toNatClampNeg ((4 * a1) + a3)))) → inx ((4 * a1) + a3) 8) (k6 : (¬ (mem 222 (Int32.toNatClampNeg ((4 * a1) + a4))) ≤ (mem 222 (Int32.toNatClampNeg ((4 * a1) + a3)))) → QW d mMo_join 155 (lMo_join_155 a1 a2 a3 a4 s0) [.int (mem 222 (Int32.toNatClampNeg ((4 * a1) + a3)))] (hpo X mem sw o e) P) : QW d mMo_join 105 (lMo_join_105 a1 a2 a3 a4 a5) [.int s0] (hpo X mem sw o e) P := by
  show QW d mMo_join 105 [.val (.ref 193), .val (.int a1), .val (.int a2), .val (.int a3), .val (.int a4), .val (.int a5), .unset, .unset] [.int s0] (hpo X mem sw o e) P
  refine QW.istore (ls' := [.val (.ref 193), .val (.int a1), .val (.int a2), .val (.int a3), .val (.int a4), .val (.int s0), .unset, .unset]) dMo_join_105 rfl ?_
  refine QW.aload_n dMo_join_107 rfl rfl ?_
  refine MW.getr (r' := 222) hX dMo_join_108 fMo_100 rfl rfl (by cases sw <;> rfl) ?_
  refine QW.iconst (v := 4) dMo_join_111 (by decide) ?_
  refine QW.iload_n dMo_join_112 rfl rfl ?_
  refine QW.imul dMo_join_113 ?_
  refine QW.iload_n dMo_join_114 rfl rfl ?_
  refine QW.iadd dMo_join_115 ?_
  refine MW.iald hX dMo_join_116 rfl h1.1 (rep_get h1.2) ?_
  refine QW.aload_n dMo_join_117 rfl rfl ?_
  refine MW.getr (r' := 222) hX dMo_join_118 fMo_100 rfl rfl (by cases sw <;> rfl) ?_
  refine QW.iconst (v := 4) dMo_join_121 (by decide) ?_
  refine QW.iload_n dMo_join_122 rfl rfl ?_
  refine QW.imul dMo_join_123 ?_
  refine QW.iload dMo_join_124 rfl ?_
  refine QW.iadd dMo_join_126 ?_
  refine MW.iald hX dMo_join_127 rfl h2.1 (rep_get h2.2) ?_
  refine QW.icmp_ge (tgt := 144) dMo_join_128 (by decide) (fun z0 => ?_) (fun z0 => ?_)
  · refine QW.aload_n dMo_join_144 rfl rfl ?_
    refine MW.getr (r' := 222) hX dMo_join_145 fMo_100 rfl rfl (by cases sw <;> rfl) ?_
    refine QW.iconst (v := 4) dMo_join_148 (by decide) ?_
    refine QW.iload_n dMo_join_149 rfl rfl ?_
    refine QW.imul dMo_join_150 ?_
    refine QW.iload dMo_join_151 rfl ?_
    refine QW.iadd dMo_join_153 ?_
    refine MW.iald hX dMo_join_154 rfl (h3 z0).1 (rep_get (h3 z0).2) ?_
    exact (k4 z0)
  · refine QW.aload_n dMo_join_131 rfl rfl ?_
    refine MW.getr (r' := 222) hX dMo_join_132 fMo_100 rfl rfl (by cases sw <;> rfl) ?_
    refine QW.iconst (v := 4) dMo_join_135 (by decide) ?_
    refine QW.iload_n dMo_join_136 rfl rfl ?_
    refine QW.imul dMo_join_137 ?_
    refine QW.iload_n dMo_join_138 rfl rfl ?_
    refine QW.iadd dMo_join_139 ?_
    refine MW.iald hX dMo_join_140 rfl (h5 z0).1 (rep_get (h5 z0).2) ?_
    refine QW.goto (tgt := 155) dMo_join_141 (by decide) ?_
    exact (k6 z0)
theorem bMo_join_155 {a1 : Int32} {a2 : Int32} {a3 : Int32} {a4 : Int32} {a5 : Int32} {s0 : Int32} (hX : X.length = 13) (k1 : QW d mMo_join 160 (lMo_join_160 a1 a2 a3 a4 a5 s0 0) [] (hpo X mem sw o e) P) : QW d mMo_join 155 (lMo_join_155 a1 a2 a3 a4 a5) [.int s0] (hpo X mem sw o e) P := by
  show QW d mMo_join 155 [.val (.ref 193), .val (.int a1), .val (.int a2), .val (.int a3), .val (.int a4), .val (.int a5), .unset, .unset] [.int s0] (hpo X mem sw o e) P
  refine QW.istore (ls' := [.val (.ref 193), .val (.int a1), .val (.int a2), .val (.int a3), .val (.int a4), .val (.int a5), .val (.int s0), .unset]) dMo_join_155 rfl ?_
  refine QW.iconst (v := 0) dMo_join_157 (by decide) ?_
  refine QW.istore (ls' := [.val (.ref 193), .val (.int a1), .val (.int a2), .val (.int a3), .val (.int a4), .val (.int a5), .val (.int s0), .val (.int 0)]) dMo_join_158 rfl ?_
  exact k1
theorem bMo_join_160 {a1 : Int32} {a2 : Int32} {a3 : Int32} {a4 : Int32} {a5 : Int32} {a6 : Int32} {a7 : Int32} (hX : X.length = 13) (h1 : inx a2 15) (k2 : ((mem 204 (Int32.toNatClampNeg a2)) ≤ a7) → P (.inl none, (hpo X mem sw o e))) (h3 : (¬ (mem 204 (Int32.toNatClampNeg a2)) ≤ a7) → inx ((4 * a1) + a7) 8) (h4 : (¬ (mem 204 (Int32.toNatClampNeg a2)) ≤ a7) → (¬ (mem 222 (Int32.toNatClampNeg ((4 * a1) + a7))) = a5) → inx ((4 * a1) + a7) 8) (k5 : (¬ (mem 204 (Int32.toNatClampNeg a2)) ≤ a7) → (¬ (mem 222 (Int32.toNatClampNeg ((4 * a1) + a7))) = a5) → QW d mMo_join 213 (lMo_join_213 a1 a2 a3 a4 a5 a6 a7) [.int (mem 222 (Int32.toNatClampNeg ((4 * a1) + a7))), .int ((4 * a1) + a7), .ref 222] (hpo X mem sw o e) P) (k6 : (¬ (mem 204 (Int32.toNatClampNeg a2)) ≤ a7) → ((mem 222 (Int32.toNatClampNeg ((4 * a1) + a7))) = a5) → QW d mMo_join 213 (lMo_join_213 a1 a2 a3 a4 a5 a6 a7) [.int a6, .int ((4 * a1) + a7), .ref 222] (hpo X mem sw o e) P) : QW d mMo_join 160 (lMo_join_160 a1 a2 a3 a4 a5 a6 a7) [] (hpo X mem sw o e) P := by
  show QW d mMo_join 160 [.val (.ref 193), .val (.int a1), .val (.int a2), .val (.int a3), .val (.int a4), .val (.int a5), .val (.int a6), .val (.int a7)] [] (hpo X mem sw o e) P
  refine QW.iload dMo_join_160 rfl ?_
  refine QW.aload_n dMo_join_162 rfl rfl ?_
  refine MW.getr (r' := 204) hX dMo_join_163 fMo_46 rfl rfl (by cases sw <;> rfl) ?_
  refine QW.iload_n dMo_join_166 rfl rfl ?_
  refine MW.iald hX dMo_join_167 rfl h1.1 (rep_get h1.2) ?_
  refine QW.icmp_ge (tgt := 220) dMo_join_168 (by decide) (fun z0 => ?_) (fun z0 => ?_)
  · exact QW.vret dMo_join_220 rfl (k2 z0)
  · refine QW.aload_n dMo_join_171 rfl rfl ?_
    refine MW.getr (r' := 222) hX dMo_join_172 fMo_100 rfl rfl (by cases sw <;> rfl) ?_
    refine QW.iconst (v := 4) dMo_join_175 (by decide) ?_
    refine QW.iload_n dMo_join_176 rfl rfl ?_
    refine QW.imul dMo_join_177 ?_
    refine QW.iload dMo_join_178 rfl ?_
    refine QW.iadd dMo_join_180 ?_
    refine QW.aload_n dMo_join_181 rfl rfl ?_
    refine MW.getr (r' := 222) hX dMo_join_182 fMo_100 rfl rfl (by cases sw <;> rfl) ?_
    refine QW.iconst (v := 4) dMo_join_185 (by decide) ?_
    refine QW.iload_n dMo_join_186 rfl rfl ?_
    refine QW.imul dMo_join_187 ?_
    refine QW.iload dMo_join_188 rfl ?_
    refine QW.iadd dMo_join_190 ?_
    refine MW.iald hX dMo_join_191 rfl (h3 z0).1 (rep_get (h3 z0).2) ?_
    refine QW.iload dMo_join_192 rfl ?_
    refine QW.icmp_ne (tgt := 202) dMo_join_194 (by decide) (fun z1 => ?_) (fun z1 => ?_)
    · refine QW.aload_n dMo_join_202 rfl rfl ?_
      refine MW.getr (r' := 222) hX dMo_join_203 fMo_100 rfl rfl (by cases sw <;> rfl) ?_
      refine QW.iconst (v := 4) dMo_join_206 (by decide) ?_
      refine QW.iload_n dMo_join_207 rfl rfl ?_
      refine QW.imul dMo_join_208 ?_
      refine QW.iload dMo_join_209 rfl ?_
      refine QW.iadd dMo_join_211 ?_
      refine MW.iald hX dMo_join_212 rfl (h4 z0 z1).1 (rep_get (h4 z0 z1).2) ?_
      exact (k5 z0 z1)
    · refine QW.iload dMo_join_197 rfl ?_
      refine QW.goto (tgt := 213) dMo_join_199 (by decide) ?_
      exact (k6 z0 z1)
theorem bMo_join_213 {a1 : Int32} {a2 : Int32} {a3 : Int32} {a4 : Int32} {a5 : Int32} {a6 : Int32} {a7 : Int32} {s2 : Int32} {s1 : Int32} (hX : X.length = 13) (h1 : inx s1 8) (k2 : QW d mMo_join 160 (lMo_join_160 a1 a2 a3 a4 a5 a6 (a7 + 1)) [] (hpo X (mup mem 222 (Int32.toNatClampNeg s1) s2) sw o e) P) : QW d mMo_join 213 (lMo_join_213 a1 a2 a3 a4 a5 a6 a7) [.int s2, .int s1, .ref 222] (hpo X mem sw o e) P := by
  show QW d mMo_join 213 [.val (.ref 193), .val (.int a1), .val (.int a2), .val (.int a3), .val (.int a4), .val (.int a5), .val (.int a6), .val (.int a7)] [.int s2, .int s1, .ref 222] (hpo X mem sw o e) P
  refine MW.iast hX dMo_join_213 rfl h1.1 (rep_get h1.2) ?_
  refine MW.iinc (c := 1) (ls' := [.val (.ref 193), .val (.int a1), .val (.int a2), .val (.int a3), .val (.int a4), .val (.int a5), .val (.int a6), .val (.int (a7 + 1))]) dMo_join_214 (by decide) rfl rfl ?_
  refine QW.goto (tgt := 160) dMo_join_217 (by decide) ?_
  exact k2
theorem dMo_numberOf_0 : decode mMo_numberOf.2.1 0 = .ok (.iconst (-1), 1) := by decide +kernel
theorem dMo_numberOf_1 : decode mMo_numberOf.2.1 1 = .ok (.istore_n 3, 1) := by decide +kernel
theorem dMo_numberOf_2 : decode mMo_numberOf.2.1 2 = .ok (.bipush 32, 2) := by decide +kernel
theorem dMo_numberOf_4 : decode mMo_numberOf.2.1 4 = .ok (.iload_n 1, 1) := by decide +kernel
theorem dMo_numberOf_5 : decode mMo_numberOf.2.1 5 = .ok (.imul, 1) := by decide +kernel
theorem dMo_numberOf_6 : decode mMo_numberOf.2.1 6 = .ok (.bipush 12, 2) := by decide +kernel
theorem dMo_numberOf_8 : decode mMo_numberOf.2.1 8 = .ok (.iadd, 1) := by decide +kernel
theorem dMo_numberOf_9 : decode mMo_numberOf.2.1 9 = .ok (.istore 4, 2) := by decide +kernel
theorem dMo_numberOf_11 : decode mMo_numberOf.2.1 11 = .ok (.iload 4, 2) := by decide +kernel
theorem dMo_numberOf_13 : decode mMo_numberOf.2.1 13 = .ok (.bipush 32, 2) := by decide +kernel
theorem dMo_numberOf_15 : decode mMo_numberOf.2.1 15 = .ok (.iload_n 1, 1) := by decide +kernel
theorem dMo_numberOf_16 : decode mMo_numberOf.2.1 16 = .ok (.imul, 1) := by decide +kernel
theorem dMo_numberOf_17 : decode mMo_numberOf.2.1 17 = .ok (.bipush 12, 2) := by decide +kernel
theorem dMo_numberOf_19 : decode mMo_numberOf.2.1 19 = .ok (.iadd, 1) := by decide +kernel
theorem dMo_numberOf_20 : decode mMo_numberOf.2.1 20 = .ok (.aload_n 0, 1) := by decide +kernel
theorem dMo_numberOf_21 : decode mMo_numberOf.2.1 21 = .ok (.getfield 97, 3) := by decide +kernel
theorem dMo_numberOf_24 : decode mMo_numberOf.2.1 24 = .ok (.iload_n 1, 1) := by decide +kernel
theorem dMo_numberOf_25 : decode mMo_numberOf.2.1 25 = .ok (.iaload, 1) := by decide +kernel
theorem dMo_numberOf_26 : decode mMo_numberOf.2.1 26 = .ok (.iadd, 1) := by decide +kernel
theorem dMo_numberOf_27 : decode mMo_numberOf.2.1 27 = .ok (.if_icmp .ge 32, 3) := by decide +kernel
theorem dMo_numberOf_30 : decode mMo_numberOf.2.1 30 = .ok (.aload_n 0, 1) := by decide +kernel
theorem dMo_numberOf_31 : decode mMo_numberOf.2.1 31 = .ok (.getfield 91, 3) := by decide +kernel
theorem dMo_numberOf_34 : decode mMo_numberOf.2.1 34 = .ok (.iload 4, 2) := by decide +kernel
theorem dMo_numberOf_36 : decode mMo_numberOf.2.1 36 = .ok (.iaload, 1) := by decide +kernel
theorem dMo_numberOf_37 : decode mMo_numberOf.2.1 37 = .ok (.aload_n 0, 1) := by decide +kernel
theorem dMo_numberOf_38 : decode mMo_numberOf.2.1 38 = .ok (.getfield 91, 3) := by decide +kernel
theorem dMo_numberOf_41 : decode mMo_numberOf.2.1 41 = .ok (.iload_n 2, 1) := by decide +kernel
theorem dMo_numberOf_42 : decode mMo_numberOf.2.1 42 = .ok (.iaload, 1) := by decide +kernel
theorem dMo_numberOf_43 : decode mMo_numberOf.2.1 43 = .ok (.if_icmp .ne 8, 3) := by decide +kernel
theorem dMo_numberOf_46 : decode mMo_numberOf.2.1 46 = .ok (.iload 4, 2) := by decide +kernel
theorem dMo_numberOf_48 : decode mMo_numberOf.2.1 48 = .ok (.goto 4, 3) := by decide +kernel
theorem dMo_numberOf_51 : decode mMo_numberOf.2.1 51 = .ok (.iload_n 3, 1) := by decide +kernel
theorem dMo_numberOf_52 : decode mMo_numberOf.2.1 52 = .ok (.istore_n 3, 1) := by decide +kernel
theorem dMo_numberOf_53 : decode mMo_numberOf.2.1 53 = .ok (.iinc 4 1, 3) := by decide +kernel
theorem dMo_numberOf_56 : decode mMo_numberOf.2.1 56 = .ok (.goto (-45), 3) := by decide +kernel
theorem dMo_numberOf_59 : decode mMo_numberOf.2.1 59 = .ok (.iload_n 3, 1) := by decide +kernel
theorem dMo_numberOf_60 : decode mMo_numberOf.2.1 60 = .ok (.ireturn, 1) := by decide +kernel
def lMo_numberOf_11 (a1 : Int32) (a2 : Int32) (a3 : Int32) (a4 : Int32) : List Slot := [.val (.ref 193), .val (.int a1), .val (.int a2), .val (.int a3), .val (.int a4)]
def lMo_numberOf_52 (a1 : Int32) (a2 : Int32) (a3 : Int32) (a4 : Int32) : List Slot := [.val (.ref 193), .val (.int a1), .val (.int a2), .val (.int a3), .val (.int a4)]
theorem bMo_numberOf_0 {a1 : Int32} {a2 : Int32} (hX : X.length = 13) (k1 : QW d mMo_numberOf 11 (lMo_numberOf_11 a1 a2 (-1) ((32 * a1) + 12)) [] (hpo X mem sw o e) P) : QW d mMo_numberOf 0 (qen 5 [.ref 193, .int a1, .int a2]) [] (hpo X mem sw o e) P := by
  show QW d mMo_numberOf 0 [.val (.ref 193), .val (.int a1), .val (.int a2), .unset, .unset] [] (hpo X mem sw o e) P
  refine QW.iconst (v := (-1)) dMo_numberOf_0 (by decide) ?_
  refine QW.istore_n (ls' := [.val (.ref 193), .val (.int a1), .val (.int a2), .val (.int (-1)), .unset]) dMo_numberOf_1 rfl rfl ?_
  refine QW.bipush (v := 32) dMo_numberOf_2 (by decide) ?_
  refine QW.iload_n dMo_numberOf_4 rfl rfl ?_
  refine QW.imul dMo_numberOf_5 ?_
  refine QW.bipush (v := 12) dMo_numberOf_6 (by decide) ?_
  refine QW.iadd dMo_numberOf_8 ?_
  refine QW.istore (ls' := [.val (.ref 193), .val (.int a1), .val (.int a2), .val (.int (-1)), .val (.int ((32 * a1) + 12))]) dMo_numberOf_9 rfl ?_
  exact k1
theorem bMo_numberOf_11 {a1 : Int32} {a2 : Int32} {a3 : Int32} {a4 : Int32} (hX : X.length = 13) (h1 : inx a1 2) (k2 : ((((32 * a1) + 12) + (mem 221 (Int32.toNatClampNeg a1))) ≤ a4) → P (.inl (some (.int a3)), (hpo X mem sw o e))) (h3 : (¬ (((32 * a1) + 12) + (mem 221 (Int32.toNatClampNeg a1))) ≤ a4) → inx a4 64) (h4 : (¬ (((32 * a1) + 12) + (mem 221 (Int32.toNatClampNeg a1))) ≤ a4) → inx a2 64) (k5 : (¬ (((32 * a1) + 12) + (mem 221 (Int32.toNatClampNeg a1))) ≤ a4) → (¬ (mem 219 (Int32.toNatClampNeg a4)) = (mem 219 (Int32.toNatClampNeg a2))) → QW d mMo_numberOf 52 (lMo_numberOf_52 a1 a2 a3 a4) [.int a3] (hpo X mem sw o e) P) (k6 : (¬ (((32 * a1) + 12) + (mem 221 (Int32.toNatClampNeg a1))) ≤ a4) → ((mem 219 (Int32.toNatClampNeg a4)) = (mem 219 (Int32.toNatClampNeg a2))) → QW d mMo_numberOf 52 (lMo_numberOf_52 a1 a2 a3 a4) [.int a4] (hpo X mem sw o e) P) : QW d mMo_numberOf 11 (lMo_numberOf_11 a1 a2 a3 a4) [] (hpo X mem sw o e) P := by
  show QW d mMo_numberOf 11 [.val (.ref 193), .val (.int a1), .val (.int a2), .val (.int a3), .val (.int a4)] [] (hpo X mem sw o e) P
  refine QW.iload dMo_numberOf_11 rfl ?_
  refine QW.bipush (v := 32) dMo_numberOf_13 (by decide) ?_
  refine QW.iload_n dMo_numberOf_15 rfl rfl ?_
  refine QW.imul dMo_numberOf_16 ?_
  refine QW.bipush (v := 12) dMo_numberOf_17 (by decide) ?_
  refine QW.iadd dMo_numberOf_19 ?_
  refine QW.aload_n dMo_numberOf_20 rfl rfl ?_
  refine MW.getr (r' := 221) hX dMo_numberOf_21 fMo_97 rfl rfl (by cases sw <;> rfl) ?_
  refine QW.iload_n dMo_numberOf_24 rfl rfl ?_
  refine MW.iald hX dMo_numberOf_25 rfl h1.1 (rep_get h1.2) ?_
  refine QW.iadd dMo_numberOf_26 ?_
  refine QW.icmp_ge (tgt := 59) dMo_numberOf_27 (by decide) (fun z0 => ?_) (fun z0 => ?_)
  · refine QW.iload_n dMo_numberOf_59 rfl rfl ?_
    exact QW.iret dMo_numberOf_60 rfl rfl (k2 z0)
  · refine QW.aload_n dMo_numberOf_30 rfl rfl ?_
    refine MW.getr (r' := 219) hX dMo_numberOf_31 fMo_91 rfl rfl (by cases sw <;> rfl) ?_
    refine QW.iload dMo_numberOf_34 rfl ?_
    refine MW.iald hX dMo_numberOf_36 rfl (h3 z0).1 (rep_get (h3 z0).2) ?_
    refine QW.aload_n dMo_numberOf_37 rfl rfl ?_
    refine MW.getr (r' := 219) hX dMo_numberOf_38 fMo_91 rfl rfl (by cases sw <;> rfl) ?_
    refine QW.iload_n dMo_numberOf_41 rfl rfl ?_
    refine MW.iald hX dMo_numberOf_42 rfl (h4 z0).1 (rep_get (h4 z0).2) ?_
    refine QW.icmp_ne (tgt := 51) dMo_numberOf_43 (by decide) (fun z1 => ?_) (fun z1 => ?_)
    · refine QW.iload_n dMo_numberOf_51 rfl rfl ?_
      exact (k5 z0 z1)
    · refine QW.iload dMo_numberOf_46 rfl ?_
      refine QW.goto (tgt := 52) dMo_numberOf_48 (by decide) ?_
      exact (k6 z0 z1)
theorem bMo_numberOf_52 {a1 : Int32} {a2 : Int32} {a3 : Int32} {a4 : Int32} {s0 : Int32} (hX : X.length = 13) (k1 : QW d mMo_numberOf 11 (lMo_numberOf_11 a1 a2 s0 (a4 + 1)) [] (hpo X mem sw o e) P) : QW d mMo_numberOf 52 (lMo_numberOf_52 a1 a2 a3 a4) [.int s0] (hpo X mem sw o e) P := by
  show QW d mMo_numberOf 52 [.val (.ref 193), .val (.int a1), .val (.int a2), .val (.int a3), .val (.int a4)] [.int s0] (hpo X mem sw o e) P
  refine QW.istore_n (ls' := [.val (.ref 193), .val (.int a1), .val (.int a2), .val (.int s0), .val (.int a4)]) dMo_numberOf_52 rfl rfl ?_
  refine MW.iinc (c := 1) (ls' := [.val (.ref 193), .val (.int a1), .val (.int a2), .val (.int s0), .val (.int (a4 + 1))]) dMo_numberOf_53 (by decide) rfl rfl ?_
  refine QW.goto (tgt := 11) dMo_numberOf_56 (by decide) ?_
  exact k1
theorem dMo_isEmpty_0 : decode mMo_isEmpty.2.1 0 = .ok (.iconst 0, 1) := by decide +kernel
theorem dMo_isEmpty_1 : decode mMo_isEmpty.2.1 1 = .ok (.istore_n 3, 1) := by decide +kernel
theorem dMo_isEmpty_2 : decode mMo_isEmpty.2.1 2 = .ok (.bipush 32, 2) := by decide +kernel
theorem dMo_isEmpty_4 : decode mMo_isEmpty.2.1 4 = .ok (.iload_n 1, 1) := by decide +kernel
theorem dMo_isEmpty_5 : decode mMo_isEmpty.2.1 5 = .ok (.imul, 1) := by decide +kernel
theorem dMo_isEmpty_6 : decode mMo_isEmpty.2.1 6 = .ok (.bipush 12, 2) := by decide +kernel
theorem dMo_isEmpty_8 : decode mMo_isEmpty.2.1 8 = .ok (.iadd, 1) := by decide +kernel
theorem dMo_isEmpty_9 : decode mMo_isEmpty.2.1 9 = .ok (.istore 4, 2) := by decide +kernel
theorem dMo_isEmpty_11 : decode mMo_isEmpty.2.1 11 = .ok (.iload 4, 2) := by decide +kernel
theorem dMo_isEmpty_13 : decode mMo_isEmpty.2.1 13 = .ok (.bipush 32, 2) := by decide +kernel
theorem dMo_isEmpty_15 : decode mMo_isEmpty.2.1 15 = .ok (.iload_n 1, 1) := by decide +kernel
theorem dMo_isEmpty_16 : decode mMo_isEmpty.2.1 16 = .ok (.imul, 1) := by decide +kernel
theorem dMo_isEmpty_17 : decode mMo_isEmpty.2.1 17 = .ok (.bipush 12, 2) := by decide +kernel
theorem dMo_isEmpty_19 : decode mMo_isEmpty.2.1 19 = .ok (.iadd, 1) := by decide +kernel
theorem dMo_isEmpty_20 : decode mMo_isEmpty.2.1 20 = .ok (.aload_n 0, 1) := by decide +kernel
theorem dMo_isEmpty_21 : decode mMo_isEmpty.2.1 21 = .ok (.getfield 97, 3) := by decide +kernel
theorem dMo_isEmpty_24 : decode mMo_isEmpty.2.1 24 = .ok (.iload_n 1, 1) := by decide +kernel
theorem dMo_isEmpty_25 : decode mMo_isEmpty.2.1 25 = .ok (.iaload, 1) := by decide +kernel
theorem dMo_isEmpty_26 : decode mMo_isEmpty.2.1 26 = .ok (.iadd, 1) := by decide +kernel
theorem dMo_isEmpty_27 : decode mMo_isEmpty.2.1 27 = .ok (.if_icmp .ge 31, 3) := by decide +kernel
theorem dMo_isEmpty_30 : decode mMo_isEmpty.2.1 30 = .ok (.iload_n 3, 1) := by decide +kernel
theorem dMo_isEmpty_31 : decode mMo_isEmpty.2.1 31 = .ok (.ifCond .ne 15, 3) := by decide +kernel
theorem dMo_isEmpty_34 : decode mMo_isEmpty.2.1 34 = .ok (.aload_n 0, 1) := by decide +kernel
theorem dMo_isEmpty_35 : decode mMo_isEmpty.2.1 35 = .ok (.iload_n 1, 1) := by decide +kernel
theorem dMo_isEmpty_36 : decode mMo_isEmpty.2.1 36 = .ok (.iload 4, 2) := by decide +kernel
theorem dMo_isEmpty_38 : decode mMo_isEmpty.2.1 38 = .ok (.invokevirtual 265, 3) := by decide +kernel
theorem dMo_isEmpty_41 : decode mMo_isEmpty.2.1 41 = .ok (.iload 4, 2) := by decide +kernel
theorem dMo_isEmpty_43 : decode mMo_isEmpty.2.1 43 = .ok (.if_icmp .eq 7, 3) := by decide +kernel
theorem dMo_isEmpty_46 : decode mMo_isEmpty.2.1 46 = .ok (.iconst 1, 1) := by decide +kernel
theorem dMo_isEmpty_47 : decode mMo_isEmpty.2.1 47 = .ok (.goto 4, 3) := by decide +kernel
theorem dMo_isEmpty_50 : decode mMo_isEmpty.2.1 50 = .ok (.iconst 0, 1) := by decide +kernel
theorem dMo_isEmpty_51 : decode mMo_isEmpty.2.1 51 = .ok (.istore_n 3, 1) := by decide +kernel
theorem dMo_isEmpty_52 : decode mMo_isEmpty.2.1 52 = .ok (.iinc 4 1, 3) := by decide +kernel
theorem dMo_isEmpty_55 : decode mMo_isEmpty.2.1 55 = .ok (.goto (-44), 3) := by decide +kernel
theorem dMo_isEmpty_58 : decode mMo_isEmpty.2.1 58 = .ok (.bipush 6, 2) := by decide +kernel
theorem dMo_isEmpty_60 : decode mMo_isEmpty.2.1 60 = .ok (.iload_n 2, 1) := by decide +kernel
theorem dMo_isEmpty_61 : decode mMo_isEmpty.2.1 61 = .ok (.imul, 1) := by decide +kernel
theorem dMo_isEmpty_62 : decode mMo_isEmpty.2.1 62 = .ok (.istore 4, 2) := by decide +kernel
theorem dMo_isEmpty_64 : decode mMo_isEmpty.2.1 64 = .ok (.iload 4, 2) := by decide +kernel
theorem dMo_isEmpty_66 : decode mMo_isEmpty.2.1 66 = .ok (.bipush 6, 2) := by decide +kernel
theorem dMo_isEmpty_68 : decode mMo_isEmpty.2.1 68 = .ok (.iload_n 2, 1) := by decide +kernel
theorem dMo_isEmpty_69 : decode mMo_isEmpty.2.1 69 = .ok (.imul, 1) := by decide +kernel
theorem dMo_isEmpty_70 : decode mMo_isEmpty.2.1 70 = .ok (.aload_n 0, 1) := by decide +kernel
theorem dMo_isEmpty_71 : decode mMo_isEmpty.2.1 71 = .ok (.getfield 55, 3) := by decide +kernel
theorem dMo_isEmpty_74 : decode mMo_isEmpty.2.1 74 = .ok (.iload_n 2, 1) := by decide +kernel
theorem dMo_isEmpty_75 : decode mMo_isEmpty.2.1 75 = .ok (.iaload, 1) := by decide +kernel
theorem dMo_isEmpty_76 : decode mMo_isEmpty.2.1 76 = .ok (.iadd, 1) := by decide +kernel
theorem dMo_isEmpty_77 : decode mMo_isEmpty.2.1 77 = .ok (.if_icmp .ge 119, 3) := by decide +kernel
theorem dMo_isEmpty_80 : decode mMo_isEmpty.2.1 80 = .ok (.aload_n 0, 1) := by decide +kernel
theorem dMo_isEmpty_81 : decode mMo_isEmpty.2.1 81 = .ok (.iload_n 1, 1) := by decide +kernel
theorem dMo_isEmpty_82 : decode mMo_isEmpty.2.1 82 = .ok (.aload_n 0, 1) := by decide +kernel
theorem dMo_isEmpty_83 : decode mMo_isEmpty.2.1 83 = .ok (.getfield 58, 3) := by decide +kernel
theorem dMo_isEmpty_86 : decode mMo_isEmpty.2.1 86 = .ok (.iload 4, 2) := by decide +kernel
theorem dMo_isEmpty_88 : decode mMo_isEmpty.2.1 88 = .ok (.iaload, 1) := by decide +kernel
theorem dMo_isEmpty_89 : decode mMo_isEmpty.2.1 89 = .ok (.invokevirtual 250, 3) := by decide +kernel
theorem dMo_isEmpty_92 : decode mMo_isEmpty.2.1 92 = .ok (.istore 5, 2) := by decide +kernel
theorem dMo_isEmpty_94 : decode mMo_isEmpty.2.1 94 = .ok (.aload_n 0, 1) := by decide +kernel
theorem dMo_isEmpty_95 : decode mMo_isEmpty.2.1 95 = .ok (.iload_n 1, 1) := by decide +kernel
theorem dMo_isEmpty_96 : decode mMo_isEmpty.2.1 96 = .ok (.aload_n 0, 1) := by decide +kernel
theorem dMo_isEmpty_97 : decode mMo_isEmpty.2.1 97 = .ok (.getfield 61, 3) := by decide +kernel
theorem dMo_isEmpty_100 : decode mMo_isEmpty.2.1 100 = .ok (.iload 4, 2) := by decide +kernel
theorem dMo_isEmpty_102 : decode mMo_isEmpty.2.1 102 = .ok (.iaload, 1) := by decide +kernel
theorem dMo_isEmpty_103 : decode mMo_isEmpty.2.1 103 = .ok (.invokevirtual 250, 3) := by decide +kernel
theorem dMo_isEmpty_106 : decode mMo_isEmpty.2.1 106 = .ok (.istore 6, 2) := by decide +kernel
theorem dMo_isEmpty_108 : decode mMo_isEmpty.2.1 108 = .ok (.aload_n 0, 1) := by decide +kernel
theorem dMo_isEmpty_109 : decode mMo_isEmpty.2.1 109 = .ok (.iload_n 1, 1) := by decide +kernel
theorem dMo_isEmpty_110 : decode mMo_isEmpty.2.1 110 = .ok (.iload 5, 2) := by decide +kernel
theorem dMo_isEmpty_112 : decode mMo_isEmpty.2.1 112 = .ok (.invokevirtual 265, 3) := by decide +kernel
theorem dMo_isEmpty_115 : decode mMo_isEmpty.2.1 115 = .ok (.istore 7, 2) := by decide +kernel
theorem dMo_isEmpty_117 : decode mMo_isEmpty.2.1 117 = .ok (.aload_n 0, 1) := by decide +kernel
theorem dMo_isEmpty_118 : decode mMo_isEmpty.2.1 118 = .ok (.iload_n 1, 1) := by decide +kernel
theorem dMo_isEmpty_119 : decode mMo_isEmpty.2.1 119 = .ok (.iload 6, 2) := by decide +kernel
theorem dMo_isEmpty_121 : decode mMo_isEmpty.2.1 121 = .ok (.invokevirtual 265, 3) := by decide +kernel
theorem dMo_isEmpty_124 : decode mMo_isEmpty.2.1 124 = .ok (.istore 8, 2) := by decide +kernel
theorem dMo_isEmpty_126 : decode mMo_isEmpty.2.1 126 = .ok (.iload_n 3, 1) := by decide +kernel
theorem dMo_isEmpty_127 : decode mMo_isEmpty.2.1 127 = .ok (.ifCond .ne 57, 3) := by decide +kernel
theorem dMo_isEmpty_130 : decode mMo_isEmpty.2.1 130 = .ok (.aload_n 0, 1) := by decide +kernel
theorem dMo_isEmpty_131 : decode mMo_isEmpty.2.1 131 = .ok (.getfield 64, 3) := by decide +kernel
theorem dMo_isEmpty_134 : decode mMo_isEmpty.2.1 134 = .ok (.iload 4, 2) := by decide +kernel
theorem dMo_isEmpty_136 : decode mMo_isEmpty.2.1 136 = .ok (.baload, 1) := by decide +kernel
theorem dMo_isEmpty_137 : decode mMo_isEmpty.2.1 137 = .ok (.ifCond .eq 51, 3) := by decide +kernel
theorem dMo_isEmpty_140 : decode mMo_isEmpty.2.1 140 = .ok (.aload_n 0, 1) := by decide +kernel
theorem dMo_isEmpty_141 : decode mMo_isEmpty.2.1 141 = .ok (.getfield 91, 3) := by decide +kernel
theorem dMo_isEmpty_144 : decode mMo_isEmpty.2.1 144 = .ok (.iload 5, 2) := by decide +kernel
theorem dMo_isEmpty_146 : decode mMo_isEmpty.2.1 146 = .ok (.iaload, 1) := by decide +kernel
theorem dMo_isEmpty_147 : decode mMo_isEmpty.2.1 147 = .ok (.aload_n 0, 1) := by decide +kernel
theorem dMo_isEmpty_148 : decode mMo_isEmpty.2.1 148 = .ok (.getfield 91, 3) := by decide +kernel
theorem dMo_isEmpty_151 : decode mMo_isEmpty.2.1 151 = .ok (.iload 6, 2) := by decide +kernel
theorem dMo_isEmpty_153 : decode mMo_isEmpty.2.1 153 = .ok (.iaload, 1) := by decide +kernel
theorem dMo_isEmpty_154 : decode mMo_isEmpty.2.1 154 = .ok (.if_icmp .eq 30, 3) := by decide +kernel
theorem dMo_isEmpty_157 : decode mMo_isEmpty.2.1 157 = .ok (.iload 7, 2) := by decide +kernel
theorem dMo_isEmpty_159 : decode mMo_isEmpty.2.1 159 = .ok (.ifCond .lt 29, 3) := by decide +kernel
theorem dMo_isEmpty_162 : decode mMo_isEmpty.2.1 162 = .ok (.iload 8, 2) := by decide +kernel
theorem dMo_isEmpty_164 : decode mMo_isEmpty.2.1 164 = .ok (.ifCond .lt 24, 3) := by decide +kernel
theorem dMo_isEmpty_167 : decode mMo_isEmpty.2.1 167 = .ok (.aload_n 0, 1) := by decide +kernel
theorem dMo_isEmpty_168 : decode mMo_isEmpty.2.1 168 = .ok (.getfield 94, 3) := by decide +kernel
theorem dMo_isEmpty_171 : decode mMo_isEmpty.2.1 171 = .ok (.iload 7, 2) := by decide +kernel
theorem dMo_isEmpty_173 : decode mMo_isEmpty.2.1 173 = .ok (.iaload, 1) := by decide +kernel
theorem dMo_isEmpty_174 : decode mMo_isEmpty.2.1 174 = .ok (.aload_n 0, 1) := by decide +kernel
theorem dMo_isEmpty_175 : decode mMo_isEmpty.2.1 175 = .ok (.getfield 94, 3) := by decide +kernel
theorem dMo_isEmpty_178 : decode mMo_isEmpty.2.1 178 = .ok (.iload 8, 2) := by decide +kernel
theorem dMo_isEmpty_180 : decode mMo_isEmpty.2.1 180 = .ok (.iaload, 1) := by decide +kernel
theorem dMo_isEmpty_181 : decode mMo_isEmpty.2.1 181 = .ok (.if_icmp .lt 7, 3) := by decide +kernel
theorem dMo_isEmpty_184 : decode mMo_isEmpty.2.1 184 = .ok (.iconst 1, 1) := by decide +kernel
theorem dMo_isEmpty_185 : decode mMo_isEmpty.2.1 185 = .ok (.goto 4, 3) := by decide +kernel
theorem dMo_isEmpty_188 : decode mMo_isEmpty.2.1 188 = .ok (.iconst 0, 1) := by decide +kernel
theorem dMo_isEmpty_189 : decode mMo_isEmpty.2.1 189 = .ok (.istore_n 3, 1) := by decide +kernel
theorem dMo_isEmpty_190 : decode mMo_isEmpty.2.1 190 = .ok (.iinc 4 1, 3) := by decide +kernel
theorem dMo_isEmpty_193 : decode mMo_isEmpty.2.1 193 = .ok (.goto (-129), 3) := by decide +kernel
theorem dMo_isEmpty_196 : decode mMo_isEmpty.2.1 196 = .ok (.iload_n 3, 1) := by decide +kernel
theorem dMo_isEmpty_197 : decode mMo_isEmpty.2.1 197 = .ok (.ireturn, 1) := by decide +kernel
def lMo_isEmpty_11 (a1 : Int32) (a2 : Int32) (a3 : Int32) (a4 : Int32) : List Slot := [.val (.ref 193), .val (.int a1), .val (.int a2), .val (.int a3), .val (.int a4), .unset, .unset, .unset, .unset]
def lMo_isEmpty_41 (a1 : Int32) (a2 : Int32) (a3 : Int32) (a4 : Int32) : List Slot := [.val (.ref 193), .val (.int a1), .val (.int a2), .val (.int a3), .val (.int a4), .unset, .unset, .unset, .unset]
def lMo_isEmpty_46 (a1 : Int32) (a2 : Int32) (a3 : Int32) (a4 : Int32) : List Slot := [.val (.ref 193), .val (.int a1), .val (.int a2), .val (.int a3), .val (.int a4), .unset, .unset, .unset, .unset]
def lMo_isEmpty_51 (a1 : Int32) (a2 : Int32) (a3 : Int32) (a4 : Int32) : List Slot := [.val (.ref 193), .val (.int a1), .val (.int a2), .val (.int a3), .val (.int a4), .unset, .unset, .unset, .unset]
def lMo_isEmpty_64 (a1 : Int32) (a2 : Int32) (a3 : Int32) (a4 : Int32) (w5 : Slot) (w6 : Slot) (w7 : Slot) (w8 : Slot) : List Slot := [.val (.ref 193), .val (.int a1), .val (.int a2), .val (.int a3), .val (.int a4), w5, w6, w7, w8]
def lMo_isEmpty_92 (a1 : Int32) (a2 : Int32) (a3 : Int32) (a4 : Int32) (w5 : Slot) (w6 : Slot) (w7 : Slot) (w8 : Slot) : List Slot := [.val (.ref 193), .val (.int a1), .val (.int a2), .val (.int a3), .val (.int a4), w5, w6, w7, w8]
def lMo_isEmpty_106 (a1 : Int32) (a2 : Int32) (a3 : Int32) (a4 : Int32) (a5 : Int32) (w6 : Slot) (w7 : Slot) (w8 : Slot) : List Slot := [.val (.ref 193), .val (.int a1), .val (.int a2), .val (.int a3), .val (.int a4), .val (.int a5), w6, w7, w8]
def lMo_isEmpty_115 (a1 : Int32) (a2 : Int32) (a3 : Int32) (a4 : Int32) (a5 : Int32) (a6 : Int32) (w7 : Slot) (w8 : Slot) : List Slot := [.val (.ref 193), .val (.int a1), .val (.int a2), .val (.int a3), .val (.int a4), .val (.int a5), .val (.int a6), w7, w8]
def lMo_isEmpty_124 (a1 : Int32) (a2 : Int32) (a3 : Int32) (a4 : Int32) (a5 : Int32) (a6 : Int32) (a7 : Int32) (w8 : Slot) : List Slot := [.val (.ref 193), .val (.int a1), .val (.int a2), .val (.int a3), .val (.int a4), .val (.int a5), .val (.int a6), .val (.int a7), w8]
def lMo_isEmpty_184 (a1 : Int32) (a2 : Int32) (a3 : Int32) (a4 : Int32) (a5 : Int32) (a6 : Int32) (a7 : Int32) (a8 : Int32) : List Slot := [.val (.ref 193), .val (.int a1), .val (.int a2), .val (.int a3), .val (.int a4), .val (.int a5), .val (.int a6), .val (.int a7), .val (.int a8)]
def lMo_isEmpty_188 (a1 : Int32) (a2 : Int32) (a3 : Int32) (a4 : Int32) (a5 : Int32) (a6 : Int32) (a7 : Int32) (a8 : Int32) : List Slot := [.val (.ref 193), .val (.int a1), .val (.int a2), .val (.int a3), .val (.int a4), .val (.int a5), .val (.int a6), .val (.int a7), .val (.int a8)]
def lMo_isEmpty_189 (a1 : Int32) (a2 : Int32) (a3 : Int32) (a4 : Int32) (a5 : Int32) (a6 : Int32) (a7 : Int32) (a8 : Int32) : List Slot := [.val (.ref 193), .val (.int a1), .val (.int a2), .val (.int a3), .val (.int a4), .val (.int a5), .val (.int a6), .val (.int a7), .val (.int a8)]
theorem bMo_isEmpty_0 {a1 : Int32} {a2 : Int32} (hX : X.length = 13) (k1 : QW d mMo_isEmpty 11 (lMo_isEmpty_11 a1 a2 0 ((32 * a1) + 12)) [] (hpo X mem sw o e) P) : QW d mMo_isEmpty 0 (qen 9 [.ref 193, .int a1, .int a2]) [] (hpo X mem sw o e) P := by
  show QW d mMo_isEmpty 0 [.val (.ref 193), .val (.int a1), .val (.int a2), .unset, .unset, .unset, .unset, .unset, .unset] [] (hpo X mem sw o e) P
  refine QW.iconst (v := 0) dMo_isEmpty_0 (by decide) ?_
  refine QW.istore_n (ls' := [.val (.ref 193), .val (.int a1), .val (.int a2), .val (.int 0), .unset, .unset, .unset, .unset, .unset]) dMo_isEmpty_1 rfl rfl ?_
  refine QW.bipush (v := 32) dMo_isEmpty_2 (by decide) ?_
  refine QW.iload_n dMo_isEmpty_4 rfl rfl ?_
  refine QW.imul dMo_isEmpty_5 ?_
  refine QW.bipush (v := 12) dMo_isEmpty_6 (by decide) ?_
  refine QW.iadd dMo_isEmpty_8 ?_
  refine QW.istore (ls' := [.val (.ref 193), .val (.int a1), .val (.int a2), .val (.int 0), .val (.int ((32 * a1) + 12)), .unset, .unset, .unset, .unset]) dMo_isEmpty_9 rfl ?_
  exact k1
theorem bMo_isEmpty_11 {a1 : Int32} {a2 : Int32} {a3 : Int32} {a4 : Int32} (hX : X.length = 13) (h1 : inx a1 2) (k2 : ((((32 * a1) + 12) + (mem 221 (Int32.toNatClampNeg a1))) ≤ a4) → QW (d + 1) mMo_isEmpty 64 (lMo_isEmpty_64 a1 a2 a3 (6 * a2) .unset .unset .unset .unset) [] (hpo X mem sw o e) P) (k3 : (¬ (((32 * a1) + 12) + (mem 221 (Int32.toNatClampNeg a1))) ≤ a4) → (¬ a3 = 0) → QW (d + 1) mMo_isEmpty 46 (lMo_isEmpty_46 a1 a2 a3 a4) [] (hpo X mem sw o e) P) (k4 : (¬ (((32 * a1) + 12) + (mem 221 (Int32.toNatClampNeg a1))) ≤ a4) → (a3 = 0) → QW d mMo_numberOf 0 (qen 5 [.ref 193, .int a1, .int a4]) [] (hpo X mem sw o e) (qcl d mMo_isEmpty 38 41 (lMo_isEmpty_41 a1 a2 a3 a4) [] P)) : QW (d + 1) mMo_isEmpty 11 (lMo_isEmpty_11 a1 a2 a3 a4) [] (hpo X mem sw o e) P := by
  show QW (d + 1) mMo_isEmpty 11 [.val (.ref 193), .val (.int a1), .val (.int a2), .val (.int a3), .val (.int a4), .unset, .unset, .unset, .unset] [] (hpo X mem sw o e) P
  refine QW.iload dMo_isEmpty_11 rfl ?_
  refine QW.bipush (v := 32) dMo_isEmpty_13 (by decide) ?_
  refine QW.iload_n dMo_isEmpty_15 rfl rfl ?_
  refine QW.imul dMo_isEmpty_16 ?_
  refine QW.bipush (v := 12) dMo_isEmpty_17 (by decide) ?_
  refine QW.iadd dMo_isEmpty_19 ?_
  refine QW.aload_n dMo_isEmpty_20 rfl rfl ?_
  refine MW.getr (r' := 221) hX dMo_isEmpty_21 fMo_97 rfl rfl (by cases sw <;> rfl) ?_
  refine QW.iload_n dMo_isEmpty_24 rfl rfl ?_
  refine MW.iald hX dMo_isEmpty_25 rfl h1.1 (rep_get h1.2) ?_
  refine QW.iadd dMo_isEmpty_26 ?_
  refine QW.icmp_ge (tgt := 58) dMo_isEmpty_27 (by decide) (fun z0 => ?_) (fun z0 => ?_)
  · refine QW.bipush (v := 6) dMo_isEmpty_58 (by decide) ?_
    refine QW.iload_n dMo_isEmpty_60 rfl rfl ?_
    refine QW.imul dMo_isEmpty_61 ?_
    refine QW.istore (ls' := [.val (.ref 193), .val (.int a1), .val (.int a2), .val (.int a3), .val (.int (6 * a2)), .unset, .unset, .unset, .unset]) dMo_isEmpty_62 rfl ?_
    exact (k2 z0)
  · refine QW.iload_n dMo_isEmpty_30 rfl rfl ?_
    refine QW.if_ne (tgt := 46) dMo_isEmpty_31 (by decide) (fun z1 => ?_) (fun z1 => ?_)
    · exact (k3 z0 z1)
    · refine QW.aload_n dMo_isEmpty_34 rfl rfl ?_
      refine QW.iload_n dMo_isEmpty_35 rfl rfl ?_
      refine QW.iload dMo_isEmpty_36 rfl ?_
      exact MW.calV (as := [.int a1, .int a4]) (rest := []) hX dMo_isEmpty_38 eMo_numberOf lMo_265 iMo_numberOf vMo_numberOf rfl rfl rfl rfl rfl rfl (Nat.le_of_ble_eq_true rfl) rfl (k4 z0 z1)
theorem bMo_isEmpty_41 {a1 : Int32} {a2 : Int32} {a3 : Int32} {a4 : Int32} {s0 : Int32} (hX : X.length = 13) (k1 : (s0 = a4) → QW d mMo_isEmpty 51 (lMo_isEmpty_51 a1 a2 a3 a4) [.int 0] (hpo X mem sw o e) P) (k2 : (¬ s0 = a4) → QW d mMo_isEmpty 46 (lMo_isEmpty_46 a1 a2 a3 a4) [] (hpo X mem sw o e) P) : QW d mMo_isEmpty 41 (lMo_isEmpty_41 a1 a2 a3 a4) [.int s0] (hpo X mem sw o e) P := by
  show QW d mMo_isEmpty 41 [.val (.ref 193), .val (.int a1), .val (.int a2), .val (.int a3), .val (.int a4), .unset, .unset, .unset, .unset] [.int s0] (hpo X mem sw o e) P
  refine QW.iload dMo_isEmpty_41 rfl ?_
  refine QW.icmp_eq (tgt := 50) dMo_isEmpty_43 (by decide) (fun z0 => ?_) (fun z0 => ?_)
  · refine QW.iconst (v := 0) dMo_isEmpty_50 (by decide) ?_
    exact (k1 z0)
  · exact (k2 z0)
theorem bMo_isEmpty_46 {a1 : Int32} {a2 : Int32} {a3 : Int32} {a4 : Int32} (hX : X.length = 13) (k1 : QW d mMo_isEmpty 51 (lMo_isEmpty_51 a1 a2 a3 a4) [.int 1] (hpo X mem sw o e) P) : QW d mMo_isEmpty 46 (lMo_isEmpty_46 a1 a2 a3 a4) [] (hpo X mem sw o e) P := by
  show QW d mMo_isEmpty 46 [.val (.ref 193), .val (.int a1), .val (.int a2), .val (.int a3), .val (.int a4), .unset, .unset, .unset, .unset] [] (hpo X mem sw o e) P
  refine QW.iconst (v := 1) dMo_isEmpty_46 (by decide) ?_
  refine QW.goto (tgt := 51) dMo_isEmpty_47 (by decide) ?_
  exact k1
theorem bMo_isEmpty_51 {a1 : Int32} {a2 : Int32} {a3 : Int32} {a4 : Int32} {s0 : Int32} (hX : X.length = 13) (k1 : QW d mMo_isEmpty 11 (lMo_isEmpty_11 a1 a2 s0 (a4 + 1)) [] (hpo X mem sw o e) P) : QW d mMo_isEmpty 51 (lMo_isEmpty_51 a1 a2 a3 a4) [.int s0] (hpo X mem sw o e) P := by
  show QW d mMo_isEmpty 51 [.val (.ref 193), .val (.int a1), .val (.int a2), .val (.int a3), .val (.int a4), .unset, .unset, .unset, .unset] [.int s0] (hpo X mem sw o e) P
  refine QW.istore_n (ls' := [.val (.ref 193), .val (.int a1), .val (.int a2), .val (.int s0), .val (.int a4), .unset, .unset, .unset, .unset]) dMo_isEmpty_51 rfl rfl ?_
  refine MW.iinc (c := 1) (ls' := [.val (.ref 193), .val (.int a1), .val (.int a2), .val (.int s0), .val (.int (a4 + 1)), .unset, .unset, .unset, .unset]) dMo_isEmpty_52 (by decide) rfl rfl ?_
  refine QW.goto (tgt := 11) dMo_isEmpty_55 (by decide) ?_
  exact k1
theorem bMo_isEmpty_64 {a1 : Int32} {a2 : Int32} {a3 : Int32} {a4 : Int32} {w5 : Slot} {w6 : Slot} {w7 : Slot} {w8 : Slot} (hX : X.length = 13) (hw5 : qfr w5) (hw6 : qfr w6) (hw7 : qfr w7) (hw8 : qfr w8) (h1 : inx a2 15) (h2 : (((6 * a2) + (mem 207 (Int32.toNatClampNeg a2))) ≤ a4) → narrow .boolean (.int a3) = .int a3) (k3 : (((6 * a2) + (mem 207 (Int32.toNatClampNeg a2))) ≤ a4) → P (.inl (some (.int a3)), (hpo X mem sw o e))) (h4 : (¬ ((6 * a2) + (mem 207 (Int32.toNatClampNeg a2))) ≤ a4) → inx a4 90) (k5 : (¬ ((6 * a2) + (mem 207 (Int32.toNatClampNeg a2))) ≤ a4) → QW d mMo_node 0 (qen 4 [.ref 193, .int a1, .int (mem 208 (Int32.toNatClampNeg a4))]) [] (hpo X mem sw o e) (qcl d mMo_isEmpty 89 92 (lMo_isEmpty_92 a1 a2 a3 a4 w5 w6 w7 w8) [] P)) : QW (d + 1) mMo_isEmpty 64 (lMo_isEmpty_64 a1 a2 a3 a4 w5 w6 w7 w8) [] (hpo X mem sw o e) P := by
  show QW (d + 1) mMo_isEmpty 64 [.val (.ref 193), .val (.int a1), .val (.int a2), .val (.int a3), .val (.int a4), w5, w6, w7, w8] [] (hpo X mem sw o e) P
  refine QW.iload dMo_isEmpty_64 rfl ?_
  refine QW.bipush (v := 6) dMo_isEmpty_66 (by decide) ?_
  refine QW.iload_n dMo_isEmpty_68 rfl rfl ?_
  refine QW.imul dMo_isEmpty_69 ?_
  refine QW.aload_n dMo_isEmpty_70 rfl rfl ?_
  refine MW.getr (r' := 207) hX dMo_isEmpty_71 fMo_55 rfl rfl (by cases sw <;> rfl) ?_
  refine QW.iload_n dMo_isEmpty_74 rfl rfl ?_
  refine MW.iald hX dMo_isEmpty_75 rfl h1.1 (rep_get h1.2) ?_
  refine QW.iadd dMo_isEmpty_76 ?_
  refine QW.icmp_ge (tgt := 196) dMo_isEmpty_77 (by decide) (fun z0 => ?_) (fun z0 => ?_)
  · refine QW.iload_n dMo_isEmpty_196 rfl rfl ?_
    exact QW.iret dMo_isEmpty_197 rfl (h2 z0) (k3 z0)
  · refine QW.aload_n dMo_isEmpty_80 rfl rfl ?_
    refine QW.iload_n dMo_isEmpty_81 rfl rfl ?_
    refine QW.aload_n dMo_isEmpty_82 rfl rfl ?_
    refine MW.getr (r' := 208) hX dMo_isEmpty_83 fMo_58 rfl rfl (by cases sw <;> rfl) ?_
    refine QW.iload dMo_isEmpty_86 rfl ?_
    refine MW.iald hX dMo_isEmpty_88 rfl (h4 z0).1 (rep_get (h4 z0).2) ?_
    exact MW.calV (as := [.int a1, .int (mem 208 (Int32.toNatClampNeg a4))]) (rest := []) hX dMo_isEmpty_89 eMo_node lMo_250 iMo_node vMo_node rfl rfl rfl rfl rfl rfl (Nat.le_of_ble_eq_true rfl) rfl (k5 z0)
theorem bMo_isEmpty_92 {a1 : Int32} {a2 : Int32} {a3 : Int32} {a4 : Int32} {w5 : Slot} {w6 : Slot} {w7 : Slot} {w8 : Slot} {s0 : Int32} (hX : X.length = 13) (hw5 : qfr w5) (hw6 : qfr w6) (hw7 : qfr w7) (hw8 : qfr w8) (h1 : inx a4 90) (k2 : QW d mMo_node 0 (qen 4 [.ref 193, .int a1, .int (mem 209 (Int32.toNatClampNeg a4))]) [] (hpo X mem sw o e) (qcl d mMo_isEmpty 103 106 (lMo_isEmpty_106 a1 a2 a3 a4 s0 w6 w7 w8) [] P)) : QW (d + 1) mMo_isEmpty 92 (lMo_isEmpty_92 a1 a2 a3 a4 w5 w6 w7 w8) [.int s0] (hpo X mem sw o e) P := by
  show QW (d + 1) mMo_isEmpty 92 [.val (.ref 193), .val (.int a1), .val (.int a2), .val (.int a3), .val (.int a4), w5, w6, w7, w8] [.int s0] (hpo X mem sw o e) P
  refine QW.istore (ls' := [.val (.ref 193), .val (.int a1), .val (.int a2), .val (.int a3), .val (.int a4), .val (.int s0), w6, w7, w8]) dMo_isEmpty_92 (by rcases hw5 with z | ⟨_, z⟩ | ⟨_, z⟩ <;> subst z <;> rfl) ?_
  refine QW.aload_n dMo_isEmpty_94 rfl rfl ?_
  refine QW.iload_n dMo_isEmpty_95 rfl rfl ?_
  refine QW.aload_n dMo_isEmpty_96 rfl rfl ?_
  refine MW.getr (r' := 209) hX dMo_isEmpty_97 fMo_61 rfl rfl (by cases sw <;> rfl) ?_
  refine QW.iload dMo_isEmpty_100 rfl ?_
  refine MW.iald hX dMo_isEmpty_102 rfl h1.1 (rep_get h1.2) ?_
  exact MW.calV (as := [.int a1, .int (mem 209 (Int32.toNatClampNeg a4))]) (rest := []) hX dMo_isEmpty_103 eMo_node lMo_250 iMo_node vMo_node rfl rfl rfl rfl rfl rfl (Nat.le_of_ble_eq_true rfl) rfl k2
theorem bMo_isEmpty_106 {a1 : Int32} {a2 : Int32} {a3 : Int32} {a4 : Int32} {a5 : Int32} {w6 : Slot} {w7 : Slot} {w8 : Slot} {s0 : Int32} (hX : X.length = 13) (hw6 : qfr w6) (hw7 : qfr w7) (hw8 : qfr w8) (k1 : QW d mMo_numberOf 0 (qen 5 [.ref 193, .int a1, .int a5]) [] (hpo X mem sw o e) (qcl d mMo_isEmpty 112 115 (lMo_isEmpty_115 a1 a2 a3 a4 a5 s0 w7 w8) [] P)) : QW (d + 1) mMo_isEmpty 106 (lMo_isEmpty_106 a1 a2 a3 a4 a5 w6 w7 w8) [.int s0] (hpo X mem sw o e) P := by
  show QW (d + 1) mMo_isEmpty 106 [.val (.ref 193), .val (.int a1), .val (.int a2), .val (.int a3), .val (.int a4), .val (.int a5), w6, w7, w8] [.int s0] (hpo X mem sw o e) P
  refine QW.istore (ls' := [.val (.ref 193), .val (.int a1), .val (.int a2), .val (.int a3), .val (.int a4), .val (.int a5), .val (.int s0), w7, w8]) dMo_isEmpty_106 (by rcases hw6 with z | ⟨_, z⟩ | ⟨_, z⟩ <;> subst z <;> rfl) ?_
  refine QW.aload_n dMo_isEmpty_108 rfl rfl ?_
  refine QW.iload_n dMo_isEmpty_109 rfl rfl ?_
  refine QW.iload dMo_isEmpty_110 rfl ?_
  exact MW.calV (as := [.int a1, .int a5]) (rest := []) hX dMo_isEmpty_112 eMo_numberOf lMo_265 iMo_numberOf vMo_numberOf rfl rfl rfl rfl rfl rfl (Nat.le_of_ble_eq_true rfl) rfl k1
theorem bMo_isEmpty_115 {a1 : Int32} {a2 : Int32} {a3 : Int32} {a4 : Int32} {a5 : Int32} {a6 : Int32} {w7 : Slot} {w8 : Slot} {s0 : Int32} (hX : X.length = 13) (hw7 : qfr w7) (hw8 : qfr w8) (k1 : QW d mMo_numberOf 0 (qen 5 [.ref 193, .int a1, .int a6]) [] (hpo X mem sw o e) (qcl d mMo_isEmpty 121 124 (lMo_isEmpty_124 a1 a2 a3 a4 a5 a6 s0 w8) [] P)) : QW (d + 1) mMo_isEmpty 115 (lMo_isEmpty_115 a1 a2 a3 a4 a5 a6 w7 w8) [.int s0] (hpo X mem sw o e) P := by
  show QW (d + 1) mMo_isEmpty 115 [.val (.ref 193), .val (.int a1), .val (.int a2), .val (.int a3), .val (.int a4), .val (.int a5), .val (.int a6), w7, w8] [.int s0] (hpo X mem sw o e) P
  refine QW.istore (ls' := [.val (.ref 193), .val (.int a1), .val (.int a2), .val (.int a3), .val (.int a4), .val (.int a5), .val (.int a6), .val (.int s0), w8]) dMo_isEmpty_115 (by rcases hw7 with z | ⟨_, z⟩ | ⟨_, z⟩ <;> subst z <;> rfl) ?_
  refine QW.aload_n dMo_isEmpty_117 rfl rfl ?_
  refine QW.iload_n dMo_isEmpty_118 rfl rfl ?_
  refine QW.iload dMo_isEmpty_119 rfl ?_
  exact MW.calV (as := [.int a1, .int a6]) (rest := []) hX dMo_isEmpty_121 eMo_numberOf lMo_265 iMo_numberOf vMo_numberOf rfl rfl rfl rfl rfl rfl (Nat.le_of_ble_eq_true rfl) rfl k1
theorem bMo_isEmpty_124 {a1 : Int32} {a2 : Int32} {a3 : Int32} {a4 : Int32} {a5 : Int32} {a6 : Int32} {a7 : Int32} {w8 : Slot} {s0 : Int32} (hX : X.length = 13) (hw8 : qfr w8) (k1 : (¬ a3 = 0) → QW d mMo_isEmpty 184 (lMo_isEmpty_184 a1 a2 a3 a4 a5 a6 a7 s0) [] (hpo X mem sw o e) P) (h2 : (a3 = 0) → inx a4 90) (k3 : (a3 = 0) → ((mem 210 (Int32.toNatClampNeg a4)) = 0) → QW d mMo_isEmpty 188 (lMo_isEmpty_188 a1 a2 a3 a4 a5 a6 a7 s0) [] (hpo X mem sw o e) P) (h4 : (a3 = 0) → (¬ (mem 210 (Int32.toNatClampNeg a4)) = 0) → inx a5 64) (h5 : (a3 = 0) → (¬ (mem 210 (Int32.toNatClampNeg a4)) = 0) → inx a6 64) (k6 : (a3 = 0) → (¬ (mem 210 (Int32.toNatClampNeg a4)) = 0) → ((mem 219 (Int32.toNatClampNeg a5)) = (mem 219 (Int32.toNatClampNeg a6))) → QW d mMo_isEmpty 184 (lMo_isEmpty_184 a1 a2 a3 a4 a5 a6 a7 s0) [] (hpo X mem sw o e) P) (k7 : (a3 = 0) → (¬ (mem 210 (Int32.toNatClampNeg a4)) = 0) → (¬ (mem 219 (Int32.toNatClampNeg a5)) = (mem 219 (Int32.toNatClampNeg a6))) → (a7 < 0) → QW d mMo_isEmpty 188 (lMo_isEmpty_188 a1 a2 a3 a4 a5 a6 a7 s0) [] (hpo X mem sw o e) P) (k8 : (a3 = 0) → (¬ (mem 210 (Int32.toNatClampNeg a4)) = 0) → (¬ (mem 219 (Int32.toNatClampNeg a5)) = (mem 219 (Int32.toNatClampNeg a6))) → (¬ a7 < 0) → (s0 < 0) → QW d mMo_isEmpty 188 (lMo_isEmpty_188 a1 a2 a3 a4 a5 a6 a7 s0) [] (hpo X mem sw o e) P) (h9 : (a3 = 0) → (¬ (mem 210 (Int32.toNatClampNeg a4)) = 0) → (¬ (mem 219 (Int32.toNatClampNeg a5)) = (mem 219 (Int32.toNatClampNeg a6))) → (¬ a7 < 0) → (¬ s0 < 0) → inx a7 64) (h10 : (a3 = 0) → (¬ (mem 210 (Int32.toNatClampNeg a4)) = 0) → (¬ (mem 219 (Int32.toNatClampNeg a5)) = (mem 219 (Int32.toNatClampNeg a6))) → (¬ a7 < 0) → (¬ s0 < 0) → inx s0 64) (k11 : (a3 = 0) → (¬ (mem 210 (Int32.toNatClampNeg a4)) = 0) → (¬ (mem 219 (Int32.toNatClampNeg a5)) = (mem 219 (Int32.toNatClampNeg a6))) → (¬ a7 < 0) → (¬ s0 < 0) → ((mem 220 (Int32.toNatClampNeg a7)) < (mem 220 (Int32.toNatClampNeg s0))) → QW d mMo_isEmpty 188 (lMo_isEmpty_188 a1 a2 a3 a4 a5 a6 a7 s0) [] (hpo X mem sw o e) P) (k12 : (a3 = 0) → (¬ (mem 210 (Int32.toNatClampNeg a4)) = 0) → (¬ (mem 219 (Int32.toNatClampNeg a5)) = (mem 219 (Int32.toNatClampNeg a6))) → (¬ a7 < 0) → (¬ s0 < 0) → (¬ (mem 220 (Int32.toNatClampNeg a7)) < (mem 220 (Int32.toNatClampNeg s0))) → QW d mMo_isEmpty 184 (lMo_isEmpty_184 a1 a2 a3 a4 a5 a6 a7 s0) [] (hpo X mem sw o e) P) : QW d mMo_isEmpty 124 (lMo_isEmpty_124 a1 a2 a3 a4 a5 a6 a7 w8) [.int s0] (hpo X mem sw o e) P := by
  show QW d mMo_isEmpty 124 [.val (.ref 193), .val (.int a1), .val (.int a2), .val (.int a3), .val (.int a4), .val (.int a5), .val (.int a6), .val (.int a7), w8] [.int s0] (hpo X mem sw o e) P
  refine QW.istore (ls' := [.val (.ref 193), .val (.int a1), .val (.int a2), .val (.int a3), .val (.int a4), .val (.int a5), .val (.int a6), .val (.int a7), .val (.int s0)]) dMo_isEmpty_124 (by rcases hw8 with z | ⟨_, z⟩ | ⟨_, z⟩ <;> subst z <;> rfl) ?_
  refine QW.iload_n dMo_isEmpty_126 rfl rfl ?_
  refine QW.if_ne (tgt := 184) dMo_isEmpty_127 (by decide) (fun z0 => ?_) (fun z0 => ?_)
  · exact (k1 z0)
  · refine QW.aload_n dMo_isEmpty_130 rfl rfl ?_
    refine MW.getr (r' := 210) hX dMo_isEmpty_131 fMo_64 rfl rfl (by cases sw <;> rfl) ?_
    refine QW.iload dMo_isEmpty_134 rfl ?_
    refine MW.zald hX dMo_isEmpty_136 rfl (h2 z0).1 (rep_get (h2 z0).2) ?_
    refine QW.if_eq (tgt := 188) dMo_isEmpty_137 (by decide) (fun z1 => ?_) (fun z1 => ?_)
    · exact (k3 z0 z1)
    · refine QW.aload_n dMo_isEmpty_140 rfl rfl ?_
      refine MW.getr (r' := 219) hX dMo_isEmpty_141 fMo_91 rfl rfl (by cases sw <;> rfl) ?_
      refine QW.iload dMo_isEmpty_144 rfl ?_
      refine MW.iald hX dMo_isEmpty_146 rfl (h4 z0 z1).1 (rep_get (h4 z0 z1).2) ?_
      refine QW.aload_n dMo_isEmpty_147 rfl rfl ?_
      refine MW.getr (r' := 219) hX dMo_isEmpty_148 fMo_91 rfl rfl (by cases sw <;> rfl) ?_
      refine QW.iload dMo_isEmpty_151 rfl ?_
      refine MW.iald hX dMo_isEmpty_153 rfl (h5 z0 z1).1 (rep_get (h5 z0 z1).2) ?_
      refine QW.icmp_eq (tgt := 184) dMo_isEmpty_154 (by decide) (fun z2 => ?_) (fun z2 => ?_)
      · exact (k6 z0 z1 z2)
      · refine QW.iload dMo_isEmpty_157 rfl ?_
        refine QW.if_lt (tgt := 188) dMo_isEmpty_159 (by decide) (fun z3 => ?_) (fun z3 => ?_)
        · exact (k7 z0 z1 z2 z3)
        · refine QW.iload dMo_isEmpty_162 rfl ?_
          refine QW.if_lt (tgt := 188) dMo_isEmpty_164 (by decide) (fun z4 => ?_) (fun z4 => ?_)
          · exact (k8 z0 z1 z2 z3 z4)
          · refine QW.aload_n dMo_isEmpty_167 rfl rfl ?_
            refine MW.getr (r' := 220) hX dMo_isEmpty_168 fMo_94 rfl rfl (by cases sw <;> rfl) ?_
            refine QW.iload dMo_isEmpty_171 rfl ?_
            refine MW.iald hX dMo_isEmpty_173 rfl (h9 z0 z1 z2 z3 z4).1 (rep_get (h9 z0 z1 z2 z3 z4).2) ?_
            refine QW.aload_n dMo_isEmpty_174 rfl rfl ?_
            refine MW.getr (r' := 220) hX dMo_isEmpty_175 fMo_94 rfl rfl (by cases sw <;> rfl) ?_
            refine QW.iload dMo_isEmpty_178 rfl ?_
            refine MW.iald hX dMo_isEmpty_180 rfl (h10 z0 z1 z2 z3 z4).1 (rep_get (h10 z0 z1 z2 z3 z4).2) ?_
            refine QW.icmp_lt (tgt := 188) dMo_isEmpty_181 (by decide) (fun z5 => ?_) (fun z5 => ?_)
            · exact (k11 z0 z1 z2 z3 z4 z5)
            · exact (k12 z0 z1 z2 z3 z4 z5)
theorem bMo_isEmpty_184 {a1 : Int32} {a2 : Int32} {a3 : Int32} {a4 : Int32} {a5 : Int32} {a6 : Int32} {a7 : Int32} {a8 : Int32} (hX : X.length = 13) (k1 : QW d mMo_isEmpty 189 (lMo_isEmpty_189 a1 a2 a3 a4 a5 a6 a7 a8) [.int 1] (hpo X mem sw o e) P) : QW d mMo_isEmpty 184 (lMo_isEmpty_184 a1 a2 a3 a4 a5 a6 a7 a8) [] (hpo X mem sw o e) P := by
  show QW d mMo_isEmpty 184 [.val (.ref 193), .val (.int a1), .val (.int a2), .val (.int a3), .val (.int a4), .val (.int a5), .val (.int a6), .val (.int a7), .val (.int a8)] [] (hpo X mem sw o e) P
  refine QW.iconst (v := 1) dMo_isEmpty_184 (by decide) ?_
  refine QW.goto (tgt := 189) dMo_isEmpty_185 (by decide) ?_
  exact k1
theorem bMo_isEmpty_188 {a1 : Int32} {a2 : Int32} {a3 : Int32} {a4 : Int32} {a5 : Int32} {a6 : Int32} {a7 : Int32} {a8 : Int32} (hX : X.length = 13) (k1 : QW d mMo_isEmpty 189 (lMo_isEmpty_189 a1 a2 a3 a4 a5 a6 a7 a8) [.int 0] (hpo X mem sw o e) P) : QW d mMo_isEmpty 188 (lMo_isEmpty_188 a1 a2 a3 a4 a5 a6 a7 a8) [] (hpo X mem sw o e) P := by
  show QW d mMo_isEmpty 188 [.val (.ref 193), .val (.int a1), .val (.int a2), .val (.int a3), .val (.int a4), .val (.int a5), .val (.int a6), .val (.int a7), .val (.int a8)] [] (hpo X mem sw o e) P
  refine QW.iconst (v := 0) dMo_isEmpty_188 (by decide) ?_
  exact k1
theorem bMo_isEmpty_189 {a1 : Int32} {a2 : Int32} {a3 : Int32} {a4 : Int32} {a5 : Int32} {a6 : Int32} {a7 : Int32} {a8 : Int32} {s0 : Int32} (hX : X.length = 13) (k1 : QW d mMo_isEmpty 64 (lMo_isEmpty_64 a1 a2 s0 (a4 + 1) (.val (.int a5)) (.val (.int a6)) (.val (.int a7)) (.val (.int a8))) [] (hpo X mem sw o e) P) : QW d mMo_isEmpty 189 (lMo_isEmpty_189 a1 a2 a3 a4 a5 a6 a7 a8) [.int s0] (hpo X mem sw o e) P := by
  show QW d mMo_isEmpty 189 [.val (.ref 193), .val (.int a1), .val (.int a2), .val (.int a3), .val (.int a4), .val (.int a5), .val (.int a6), .val (.int a7), .val (.int a8)] [.int s0] (hpo X mem sw o e) P
  refine QW.istore_n (ls' := [.val (.ref 193), .val (.int a1), .val (.int a2), .val (.int s0), .val (.int a4), .val (.int a5), .val (.int a6), .val (.int a7), .val (.int a8)]) dMo_isEmpty_189 rfl rfl ?_
  refine MW.iinc (c := 1) (ls' := [.val (.ref 193), .val (.int a1), .val (.int a2), .val (.int s0), .val (.int (a4 + 1)), .val (.int a5), .val (.int a6), .val (.int a7), .val (.int a8)]) dMo_isEmpty_190 (by decide) rfl rfl ?_
  refine QW.goto (tgt := 64) dMo_isEmpty_193 (by decide) ?_
  exact k1
theorem dMo_leftOver_0 : decode mMo_leftOver.2.1 0 = .ok (.iconst 0, 1) := by decide +kernel
theorem dMo_leftOver_1 : decode mMo_leftOver.2.1 1 = .ok (.istore_n 3, 1) := by decide +kernel
theorem dMo_leftOver_2 : decode mMo_leftOver.2.1 2 = .ok (.iconst 0, 1) := by decide +kernel
theorem dMo_leftOver_3 : decode mMo_leftOver.2.1 3 = .ok (.istore 4, 2) := by decide +kernel
theorem dMo_leftOver_5 : decode mMo_leftOver.2.1 5 = .ok (.iload 4, 2) := by decide +kernel
theorem dMo_leftOver_7 : decode mMo_leftOver.2.1 7 = .ok (.aload_n 0, 1) := by decide +kernel
theorem dMo_leftOver_8 : decode mMo_leftOver.2.1 8 = .ok (.getfield 46, 3) := by decide +kernel
theorem dMo_leftOver_11 : decode mMo_leftOver.2.1 11 = .ok (.iload_n 2, 1) := by decide +kernel
theorem dMo_leftOver_12 : decode mMo_leftOver.2.1 12 = .ok (.iaload, 1) := by decide +kernel
theorem dMo_leftOver_13 : decode mMo_leftOver.2.1 13 = .ok (.if_icmp .ge 33, 3) := by decide +kernel
theorem dMo_leftOver_16 : decode mMo_leftOver.2.1 16 = .ok (.iload_n 3, 1) := by decide +kernel
theorem dMo_leftOver_17 : decode mMo_leftOver.2.1 17 = .ok (.aload_n 0, 1) := by decide +kernel
theorem dMo_leftOver_18 : decode mMo_leftOver.2.1 18 = .ok (.getfield 100, 3) := by decide +kernel
theorem dMo_leftOver_21 : decode mMo_leftOver.2.1 21 = .ok (.iconst 4, 1) := by decide +kernel
theorem dMo_leftOver_22 : decode mMo_leftOver.2.1 22 = .ok (.iload_n 1, 1) := by decide +kernel
theorem dMo_leftOver_23 : decode mMo_leftOver.2.1 23 = .ok (.imul, 1) := by decide +kernel
theorem dMo_leftOver_24 : decode mMo_leftOver.2.1 24 = .ok (.iload 4, 2) := by decide +kernel
theorem dMo_leftOver_26 : decode mMo_leftOver.2.1 26 = .ok (.iadd, 1) := by decide +kernel
theorem dMo_leftOver_27 : decode mMo_leftOver.2.1 27 = .ok (.iaload, 1) := by decide +kernel
theorem dMo_leftOver_28 : decode mMo_leftOver.2.1 28 = .ok (.iload 4, 2) := by decide +kernel
theorem dMo_leftOver_30 : decode mMo_leftOver.2.1 30 = .ok (.if_icmp .ne 7, 3) := by decide +kernel
theorem dMo_leftOver_33 : decode mMo_leftOver.2.1 33 = .ok (.iconst 1, 1) := by decide +kernel
theorem dMo_leftOver_34 : decode mMo_leftOver.2.1 34 = .ok (.goto 4, 3) := by decide +kernel
theorem dMo_leftOver_37 : decode mMo_leftOver.2.1 37 = .ok (.iconst 0, 1) := by decide +kernel
theorem dMo_leftOver_38 : decode mMo_leftOver.2.1 38 = .ok (.iadd, 1) := by decide +kernel
theorem dMo_leftOver_39 : decode mMo_leftOver.2.1 39 = .ok (.istore_n 3, 1) := by decide +kernel
theorem dMo_leftOver_40 : decode mMo_leftOver.2.1 40 = .ok (.iinc 4 1, 3) := by decide +kernel
theorem dMo_leftOver_43 : decode mMo_leftOver.2.1 43 = .ok (.goto (-38), 3) := by decide +kernel
theorem dMo_leftOver_46 : decode mMo_leftOver.2.1 46 = .ok (.iload_n 3, 1) := by decide +kernel
theorem dMo_leftOver_47 : decode mMo_leftOver.2.1 47 = .ok (.ireturn, 1) := by decide +kernel
def lMo_leftOver_5 (a1 : Int32) (a2 : Int32) (a3 : Int32) (a4 : Int32) : List Slot := [.val (.ref 193), .val (.int a1), .val (.int a2), .val (.int a3), .val (.int a4)]
def lMo_leftOver_38 (a1 : Int32) (a2 : Int32) (a3 : Int32) (a4 : Int32) : List Slot := [.val (.ref 193), .val (.int a1), .val (.int a2), .val (.int a3), .val (.int a4)]
theorem bMo_leftOver_0 {a1 : Int32} {a2 : Int32} (hX : X.length = 13) (k1 : QW d mMo_leftOver 5 (lMo_leftOver_5 a1 a2 0 0) [] (hpo X mem sw o e) P) : QW d mMo_leftOver 0 (qen 5 [.ref 193, .int a1, .int a2]) [] (hpo X mem sw o e) P := by
  show QW d mMo_leftOver 0 [.val (.ref 193), .val (.int a1), .val (.int a2), .unset, .unset] [] (hpo X mem sw o e) P
  refine QW.iconst (v := 0) dMo_leftOver_0 (by decide) ?_
  refine QW.istore_n (ls' := [.val (.ref 193), .val (.int a1), .val (.int a2), .val (.int 0), .unset]) dMo_leftOver_1 rfl rfl ?_
  refine QW.iconst (v := 0) dMo_leftOver_2 (by decide) ?_
  refine QW.istore (ls' := [.val (.ref 193), .val (.int a1), .val (.int a2), .val (.int 0), .val (.int 0)]) dMo_leftOver_3 rfl ?_
  exact k1
theorem bMo_leftOver_5 {a1 : Int32} {a2 : Int32} {a3 : Int32} {a4 : Int32} (hX : X.length = 13) (h1 : inx a2 15) (k2 : ((mem 204 (Int32.toNatClampNeg a2)) ≤ a4) → P (.inl (some (.int a3)), (hpo X mem sw o e))) (h3 : (¬ (mem 204 (Int32.toNatClampNeg a2)) ≤ a4) → inx ((4 * a1) + a4) 8) (k4 : (¬ (mem 204 (Int32.toNatClampNeg a2)) ≤ a4) → (¬ (mem 222 (Int32.toNatClampNeg ((4 * a1) + a4))) = a4) → QW d mMo_leftOver 38 (lMo_leftOver_38 a1 a2 a3 a4) [.int 0, .int a3] (hpo X mem sw o e) P) (k5 : (¬ (mem 204 (Int32.toNatClampNeg a2)) ≤ a4) → ((mem 222 (Int32.toNatClampNeg ((4 * a1) + a4))) = a4) → QW d mMo_leftOver 38 (lMo_leftOver_38 a1 a2 a3 a4) [.int 1, .int a3] (hpo X mem sw o e) P) : QW d mMo_leftOver 5 (lMo_leftOver_5 a1 a2 a3 a4) [] (hpo X mem sw o e) P := by
  show QW d mMo_leftOver 5 [.val (.ref 193), .val (.int a1), .val (.int a2), .val (.int a3), .val (.int a4)] [] (hpo X mem sw o e) P
  refine QW.iload dMo_leftOver_5 rfl ?_
  refine QW.aload_n dMo_leftOver_7 rfl rfl ?_
  refine MW.getr (r' := 204) hX dMo_leftOver_8 fMo_46 rfl rfl (by cases sw <;> rfl) ?_
  refine QW.iload_n dMo_leftOver_11 rfl rfl ?_
  refine MW.iald hX dMo_leftOver_12 rfl h1.1 (rep_get h1.2) ?_
  refine QW.icmp_ge (tgt := 46) dMo_leftOver_13 (by decide) (fun z0 => ?_) (fun z0 => ?_)
  · refine QW.iload_n dMo_leftOver_46 rfl rfl ?_
    exact QW.iret dMo_leftOver_47 rfl rfl (k2 z0)
  · refine QW.iload_n dMo_leftOver_16 rfl rfl ?_
    refine QW.aload_n dMo_leftOver_17 rfl rfl ?_
    refine MW.getr (r' := 222) hX dMo_leftOver_18 fMo_100 rfl rfl (by cases sw <;> rfl) ?_
    refine QW.iconst (v := 4) dMo_leftOver_21 (by decide) ?_
    refine QW.iload_n dMo_leftOver_22 rfl rfl ?_
    refine QW.imul dMo_leftOver_23 ?_
    refine QW.iload dMo_leftOver_24 rfl ?_
    refine QW.iadd dMo_leftOver_26 ?_
    refine MW.iald hX dMo_leftOver_27 rfl (h3 z0).1 (rep_get (h3 z0).2) ?_
    refine QW.iload dMo_leftOver_28 rfl ?_
    refine QW.icmp_ne (tgt := 37) dMo_leftOver_30 (by decide) (fun z1 => ?_) (fun z1 => ?_)
    · refine QW.iconst (v := 0) dMo_leftOver_37 (by decide) ?_
      exact (k4 z0 z1)
    · refine QW.iconst (v := 1) dMo_leftOver_33 (by decide) ?_
      refine QW.goto (tgt := 38) dMo_leftOver_34 (by decide) ?_
      exact (k5 z0 z1)
theorem bMo_leftOver_38 {a1 : Int32} {a2 : Int32} {a3 : Int32} {a4 : Int32} {s1 : Int32} {s0 : Int32} (hX : X.length = 13) (k1 : QW d mMo_leftOver 5 (lMo_leftOver_5 a1 a2 (s0 + s1) (a4 + 1)) [] (hpo X mem sw o e) P) : QW d mMo_leftOver 38 (lMo_leftOver_38 a1 a2 a3 a4) [.int s1, .int s0] (hpo X mem sw o e) P := by
  show QW d mMo_leftOver 38 [.val (.ref 193), .val (.int a1), .val (.int a2), .val (.int a3), .val (.int a4)] [.int s1, .int s0] (hpo X mem sw o e) P
  refine QW.iadd dMo_leftOver_38 ?_
  refine QW.istore_n (ls' := [.val (.ref 193), .val (.int a1), .val (.int a2), .val (.int (s0 + s1)), .val (.int a4)]) dMo_leftOver_39 rfl rfl ?_
  refine MW.iinc (c := 1) (ls' := [.val (.ref 193), .val (.int a1), .val (.int a2), .val (.int (s0 + s1)), .val (.int (a4 + 1))]) dMo_leftOver_40 (by decide) rfl rfl ?_
  refine QW.goto (tgt := 5) dMo_leftOver_43 (by decide) ?_
  exact k1
theorem dMo_paired_0 : decode mMo_paired.2.1 0 = .ok (.iconst 0, 1) := by decide +kernel
theorem dMo_paired_1 : decode mMo_paired.2.1 1 = .ok (.istore_n 3, 1) := by decide +kernel
theorem dMo_paired_2 : decode mMo_paired.2.1 2 = .ok (.iload_n 3, 1) := by decide +kernel
theorem dMo_paired_3 : decode mMo_paired.2.1 3 = .ok (.bipush 12, 2) := by decide +kernel
theorem dMo_paired_5 : decode mMo_paired.2.1 5 = .ok (.if_icmp .ge 103, 3) := by decide +kernel
theorem dMo_paired_8 : decode mMo_paired.2.1 8 = .ok (.iload_n 3, 1) := by decide +kernel
theorem dMo_paired_9 : decode mMo_paired.2.1 9 = .ok (.iconst 3, 1) := by decide +kernel
theorem dMo_paired_10 : decode mMo_paired.2.1 10 = .ok (.idiv, 1) := by decide +kernel
theorem dMo_paired_11 : decode mMo_paired.2.1 11 = .ok (.aload_n 0, 1) := by decide +kernel
theorem dMo_paired_12 : decode mMo_paired.2.1 12 = .ok (.getfield 46, 3) := by decide +kernel
theorem dMo_paired_15 : decode mMo_paired.2.1 15 = .ok (.iload_n 1, 1) := by decide +kernel
theorem dMo_paired_16 : decode mMo_paired.2.1 16 = .ok (.iaload, 1) := by decide +kernel
theorem dMo_paired_17 : decode mMo_paired.2.1 17 = .ok (.if_icmp .ge 59, 3) := by decide +kernel
theorem dMo_paired_20 : decode mMo_paired.2.1 20 = .ok (.aload_n 0, 1) := by decide +kernel
theorem dMo_paired_21 : decode mMo_paired.2.1 21 = .ok (.getfield 100, 3) := by decide +kernel
theorem dMo_paired_24 : decode mMo_paired.2.1 24 = .ok (.iload_n 3, 1) := by decide +kernel
theorem dMo_paired_25 : decode mMo_paired.2.1 25 = .ok (.iconst 3, 1) := by decide +kernel
theorem dMo_paired_26 : decode mMo_paired.2.1 26 = .ok (.idiv, 1) := by decide +kernel
theorem dMo_paired_27 : decode mMo_paired.2.1 27 = .ok (.iaload, 1) := by decide +kernel
theorem dMo_paired_28 : decode mMo_paired.2.1 28 = .ok (.iload_n 3, 1) := by decide +kernel
theorem dMo_paired_29 : decode mMo_paired.2.1 29 = .ok (.iconst 3, 1) := by decide +kernel
theorem dMo_paired_30 : decode mMo_paired.2.1 30 = .ok (.idiv, 1) := by decide +kernel
theorem dMo_paired_31 : decode mMo_paired.2.1 31 = .ok (.if_icmp .ne 45, 3) := by decide +kernel
theorem dMo_paired_34 : decode mMo_paired.2.1 34 = .ok (.iload_n 3, 1) := by decide +kernel
theorem dMo_paired_35 : decode mMo_paired.2.1 35 = .ok (.iconst 3, 1) := by decide +kernel
theorem dMo_paired_36 : decode mMo_paired.2.1 36 = .ok (.irem, 1) := by decide +kernel
theorem dMo_paired_37 : decode mMo_paired.2.1 37 = .ok (.aload_n 0, 1) := by decide +kernel
theorem dMo_paired_38 : decode mMo_paired.2.1 38 = .ok (.getfield 7, 3) := by decide +kernel
theorem dMo_paired_41 : decode mMo_paired.2.1 41 = .ok (.aload_n 0, 1) := by decide +kernel
theorem dMo_paired_42 : decode mMo_paired.2.1 42 = .ok (.getfield 49, 3) := by decide +kernel
theorem dMo_paired_45 : decode mMo_paired.2.1 45 = .ok (.iconst 4, 1) := by decide +kernel
theorem dMo_paired_46 : decode mMo_paired.2.1 46 = .ok (.iload_n 1, 1) := by decide +kernel
theorem dMo_paired_47 : decode mMo_paired.2.1 47 = .ok (.imul, 1) := by decide +kernel
theorem dMo_paired_48 : decode mMo_paired.2.1 48 = .ok (.iload_n 3, 1) := by decide +kernel
theorem dMo_paired_49 : decode mMo_paired.2.1 49 = .ok (.iconst 3, 1) := by decide +kernel
theorem dMo_paired_50 : decode mMo_paired.2.1 50 = .ok (.idiv, 1) := by decide +kernel
theorem dMo_paired_51 : decode mMo_paired.2.1 51 = .ok (.iadd, 1) := by decide +kernel
theorem dMo_paired_52 : decode mMo_paired.2.1 52 = .ok (.iaload, 1) := by decide +kernel
theorem dMo_paired_53 : decode mMo_paired.2.1 53 = .ok (.iaload, 1) := by decide +kernel
theorem dMo_paired_54 : decode mMo_paired.2.1 54 = .ok (.if_icmp .ge 22, 3) := by decide +kernel
theorem dMo_paired_57 : decode mMo_paired.2.1 57 = .ok (.aload_n 0, 1) := by decide +kernel
theorem dMo_paired_58 : decode mMo_paired.2.1 58 = .ok (.getfield 91, 3) := by decide +kernel
theorem dMo_paired_61 : decode mMo_paired.2.1 61 = .ok (.iload_n 3, 1) := by decide +kernel
theorem dMo_paired_62 : decode mMo_paired.2.1 62 = .ok (.iaload, 1) := by decide +kernel
theorem dMo_paired_63 : decode mMo_paired.2.1 63 = .ok (.aload_n 0, 1) := by decide +kernel
theorem dMo_paired_64 : decode mMo_paired.2.1 64 = .ok (.getfield 91, 3) := by decide +kernel
theorem dMo_paired_67 : decode mMo_paired.2.1 67 = .ok (.iload_n 2, 1) := by decide +kernel
theorem dMo_paired_68 : decode mMo_paired.2.1 68 = .ok (.iaload, 1) := by decide +kernel
theorem dMo_paired_69 : decode mMo_paired.2.1 69 = .ok (.if_icmp .ne 7, 3) := by decide +kernel
theorem dMo_paired_72 : decode mMo_paired.2.1 72 = .ok (.iconst 1, 1) := by decide +kernel
theorem dMo_paired_73 : decode mMo_paired.2.1 73 = .ok (.goto 4, 3) := by decide +kernel
theorem dMo_paired_76 : decode mMo_paired.2.1 76 = .ok (.iconst 0, 1) := by decide +kernel
theorem dMo_paired_77 : decode mMo_paired.2.1 77 = .ok (.istore 4, 2) := by decide +kernel
theorem dMo_paired_79 : decode mMo_paired.2.1 79 = .ok (.iload 4, 2) := by decide +kernel
theorem dMo_paired_81 : decode mMo_paired.2.1 81 = .ok (.ifCond .eq 21, 3) := by decide +kernel
theorem dMo_paired_84 : decode mMo_paired.2.1 84 = .ok (.bipush 32, 2) := by decide +kernel
theorem dMo_paired_86 : decode mMo_paired.2.1 86 = .ok (.iconst 3, 1) := by decide +kernel
theorem dMo_paired_87 : decode mMo_paired.2.1 87 = .ok (.aload_n 0, 1) := by decide +kernel
theorem dMo_paired_88 : decode mMo_paired.2.1 88 = .ok (.getfield 103, 3) := by decide +kernel
theorem dMo_paired_91 : decode mMo_paired.2.1 91 = .ok (.iload_n 3, 1) := by decide +kernel
theorem dMo_paired_92 : decode mMo_paired.2.1 92 = .ok (.iconst 3, 1) := by decide +kernel
theorem dMo_paired_93 : decode mMo_paired.2.1 93 = .ok (.idiv, 1) := by decide +kernel
theorem dMo_paired_94 : decode mMo_paired.2.1 94 = .ok (.iaload, 1) := by decide +kernel
theorem dMo_paired_95 : decode mMo_paired.2.1 95 = .ok (.imul, 1) := by decide +kernel
theorem dMo_paired_96 : decode mMo_paired.2.1 96 = .ok (.iadd, 1) := by decide +kernel
theorem dMo_paired_97 : decode mMo_paired.2.1 97 = .ok (.iload_n 3, 1) := by decide +kernel
theorem dMo_paired_98 : decode mMo_paired.2.1 98 = .ok (.iconst 3, 1) := by decide +kernel
theorem dMo_paired_99 : decode mMo_paired.2.1 99 = .ok (.irem, 1) := by decide +kernel
theorem dMo_paired_100 : decode mMo_paired.2.1 100 = .ok (.iadd, 1) := by decide +kernel
theorem dMo_paired_101 : decode mMo_paired.2.1 101 = .ok (.ireturn, 1) := by decide +kernel
theorem dMo_paired_102 : decode mMo_paired.2.1 102 = .ok (.iinc 3 1, 3) := by decide +kernel
theorem dMo_paired_105 : decode mMo_paired.2.1 105 = .ok (.goto (-103), 3) := by decide +kernel
theorem dMo_paired_108 : decode mMo_paired.2.1 108 = .ok (.aload_n 0, 1) := by decide +kernel
theorem dMo_paired_109 : decode mMo_paired.2.1 109 = .ok (.iconst 0, 1) := by decide +kernel
theorem dMo_paired_110 : decode mMo_paired.2.1 110 = .ok (.iload_n 2, 1) := by decide +kernel
theorem dMo_paired_111 : decode mMo_paired.2.1 111 = .ok (.invokevirtual 265, 3) := by decide +kernel
theorem dMo_paired_114 : decode mMo_paired.2.1 114 = .ok (.istore_n 3, 1) := by decide +kernel
theorem dMo_paired_115 : decode mMo_paired.2.1 115 = .ok (.bipush 44, 2) := by decide +kernel
theorem dMo_paired_117 : decode mMo_paired.2.1 117 = .ok (.istore 4, 2) := by decide +kernel
theorem dMo_paired_119 : decode mMo_paired.2.1 119 = .ok (.iload 4, 2) := by decide +kernel
theorem dMo_paired_121 : decode mMo_paired.2.1 121 = .ok (.bipush 44, 2) := by decide +kernel
theorem dMo_paired_123 : decode mMo_paired.2.1 123 = .ok (.aload_n 0, 1) := by decide +kernel
theorem dMo_paired_124 : decode mMo_paired.2.1 124 = .ok (.getfield 97, 3) := by decide +kernel
theorem dMo_paired_127 : decode mMo_paired.2.1 127 = .ok (.iconst 1, 1) := by decide +kernel
theorem dMo_paired_128 : decode mMo_paired.2.1 128 = .ok (.iaload, 1) := by decide +kernel
theorem dMo_paired_129 : decode mMo_paired.2.1 129 = .ok (.iadd, 1) := by decide +kernel
theorem dMo_paired_130 : decode mMo_paired.2.1 130 = .ok (.if_icmp .ge 32, 3) := by decide +kernel
theorem dMo_paired_133 : decode mMo_paired.2.1 133 = .ok (.iload_n 3, 1) := by decide +kernel
theorem dMo_paired_134 : decode mMo_paired.2.1 134 = .ok (.ifCond .lt 22, 3) := by decide +kernel
theorem dMo_paired_137 : decode mMo_paired.2.1 137 = .ok (.aload_n 0, 1) := by decide +kernel
theorem dMo_paired_138 : decode mMo_paired.2.1 138 = .ok (.getfield 94, 3) := by decide +kernel
theorem dMo_paired_141 : decode mMo_paired.2.1 141 = .ok (.iload 4, 2) := by decide +kernel
theorem dMo_paired_143 : decode mMo_paired.2.1 143 = .ok (.iaload, 1) := by decide +kernel
theorem dMo_paired_144 : decode mMo_paired.2.1 144 = .ok (.aload_n 0, 1) := by decide +kernel
theorem dMo_paired_145 : decode mMo_paired.2.1 145 = .ok (.getfield 94, 3) := by decide +kernel
theorem dMo_paired_148 : decode mMo_paired.2.1 148 = .ok (.iload_n 3, 1) := by decide +kernel
theorem dMo_paired_149 : decode mMo_paired.2.1 149 = .ok (.iaload, 1) := by decide +kernel
theorem dMo_paired_150 : decode mMo_paired.2.1 150 = .ok (.if_icmp .ne 6, 3) := by decide +kernel
theorem dMo_paired_153 : decode mMo_paired.2.1 153 = .ok (.iload 4, 2) := by decide +kernel
theorem dMo_paired_155 : decode mMo_paired.2.1 155 = .ok (.ireturn, 1) := by decide +kernel
theorem dMo_paired_156 : decode mMo_paired.2.1 156 = .ok (.iinc 4 1, 3) := by decide +kernel
theorem dMo_paired_159 : decode mMo_paired.2.1 159 = .ok (.goto (-40), 3) := by decide +kernel
theorem dMo_paired_162 : decode mMo_paired.2.1 162 = .ok (.iconst (-1), 1) := by decide +kernel
theorem dMo_paired_163 : decode mMo_paired.2.1 163 = .ok (.ireturn, 1) := by decide +kernel
def lMo_paired_2 (a1 : Int32) (a2 : Int32) (a3 : Int32) (w4 : Slot) : List Slot := [.val (.ref 193), .val (.int a1), .val (.int a2), .val (.int a3), w4]
def lMo_paired_76 (a1 : Int32) (a2 : Int32) (a3 : Int32) (w4 : Slot) : List Slot := [.val (.ref 193), .val (.int a1), .val (.int a2), .val (.int a3), w4]
def lMo_paired_77 (a1 : Int32) (a2 : Int32) (a3 : Int32) (w4 : Slot) : List Slot := [.val (.ref 193), .val (.int a1), .val (.int a2), .val (.int a3), w4]
def lMo_paired_114 (a1 : Int32) (a2 : Int32) (a3 : Int32) (w4 : Slot) : List Slot := [.val (.ref 193), .val (.int a1), .val (.int a2), .val (.int a3), w4]
def lMo_paired_119 (a1 : Int32) (a2 : Int32) (a3 : Int32) (a4 : Int32) : List Slot := [.val (.ref 193), .val (.int a1), .val (.int a2), .val (.int a3), .val (.int a4)]
theorem bMo_paired_0 {a1 : Int32} {a2 : Int32} (hX : X.length = 13) (k1 : QW d mMo_paired 2 (lMo_paired_2 a1 a2 0 .unset) [] (hpo X mem sw o e) P) : QW d mMo_paired 0 (qen 5 [.ref 193, .int a1, .int a2]) [] (hpo X mem sw o e) P := by
  show QW d mMo_paired 0 [.val (.ref 193), .val (.int a1), .val (.int a2), .unset, .unset] [] (hpo X mem sw o e) P
  refine QW.iconst (v := 0) dMo_paired_0 (by decide) ?_
  refine QW.istore_n (ls' := [.val (.ref 193), .val (.int a1), .val (.int a2), .val (.int 0), .unset]) dMo_paired_1 rfl rfl ?_
  exact k1
theorem bMo_paired_2 {a1 : Int32} {a2 : Int32} {a3 : Int32} {w4 : Slot} (hX : X.length = 13) (hw4 : qfr w4) (k1 : (12 ≤ a3) → QW d mMo_numberOf 0 (qen 5 [.ref 193, .int 0, .int a2]) [] (hpo X mem sw o e) (qcl d mMo_paired 111 114 (lMo_paired_114 a1 a2 a3 w4) [] P)) (h2 : (¬ 12 ≤ a3) → inx a1 15) (k3 : (¬ 12 ≤ a3) → ((mem 204 (Int32.toNatClampNeg a1)) ≤ (a3 / 3)) → QW (d + 1) mMo_paired 76 (lMo_paired_76 a1 a2 a3 w4) [] (hpo X mem sw o e) P) (h4 : (¬ 12 ≤ a3) → (¬ (mem 204 (Int32.toNatClampNeg a1)) ≤ (a3 / 3)) → inx (a3 / 3) 8) (k5 : (¬ 12 ≤ a3) → (¬ (mem 204 (Int32.toNatClampNeg a1)) ≤ (a3 / 3)) → (¬ (mem 222 (Int32.toNatClampNeg (a3 / 3))) = (a3 / 3)) → QW (d + 1) mMo_paired 76 (lMo_paired_76 a1 a2 a3 w4) [] (hpo X mem sw o e) P) (h6 : (¬ 12 ≤ a3) → (¬ (mem 204 (Int32.toNatClampNeg a1)) ≤ (a3 / 3)) → ((mem 222 (Int32.toNatClampNeg (a3 / 3))) = (a3 / 3)) → inx ((4 * a1) + (a3 / 3)) 60) (h7 : (¬ 12 ≤ a3) → (¬ (mem 204 (Int32.toNatClampNeg a1)) ≤ (a3 / 3)) → ((mem 222 (Int32.toNatClampNeg (a3 / 3))) = (a3 / 3)) → inx (mem 205 (Int32.toNatClampNeg ((4 * a1) + (a3 / 3)))) 4) (k8 : (¬ 12 ≤ a3) → (¬ (mem 204 (Int32.toNatClampNeg a1)) ≤ (a3 / 3)) → ((mem 222 (Int32.toNatClampNeg (a3 / 3))) = (a3 / 3)) → ((mem 194 (Int32.toNatClampNeg (mem 205 (Int32.toNatClampNeg ((4 * a1) + (a3 / 3)))))) ≤ (a3 - a3 / 3 * 3)) → QW (d + 1) mMo_paired 76 (lMo_paired_76 a1 a2 a3 w4) [] (hpo X mem sw o e) P) (h9 : (¬ 12 ≤ a3) → (¬ (mem 204 (Int32.toNatClampNeg a1)) ≤ (a3 / 3)) → ((mem 222 (Int32.toNatClampNeg (a3 / 3))) = (a3 / 3)) → (¬ (mem 194 (Int32.toNatClampNeg (mem 205 (Int32.toNatClampNeg ((4 * a1) + (a3 / 3)))))) ≤ (a3 - a3 / 3 * 3)) → inx a3 64) (h10 : (¬ 12 ≤ a3) → (¬ (mem 204 (Int32.toNatClampNeg a1)) ≤ (a3 / 3)) → ((mem 222 (Int32.toNatClampNeg (a3 / 3))) = (a3 / 3)) → (¬ (mem 194 (Int32.toNatClampNeg (mem 205 (Int32.toNatClampNeg ((4 * a1) + (a3 / 3)))))) ≤ (a3 - a3 / 3 * 3)) → inx a2 64) (k11 : (¬ 12 ≤ a3) → (¬ (mem 204 (Int32.toNatClampNeg a1)) ≤ (a3 / 3)) → ((mem 222 (Int32.toNatClampNeg (a3 / 3))) = (a3 / 3)) → (¬ (mem 194 (Int32.toNatClampNeg (mem 205 (Int32.toNatClampNeg ((4 * a1) + (a3 / 3)))))) ≤ (a3 - a3 / 3 * 3)) → (¬ (mem 219 (Int32.toNatClampNeg a3)) = (mem 219 (Int32.toNatClampNeg a2))) → QW (d + 1) mMo_paired 76 (lMo_paired_76 a1 a2 a3 w4) [] (hpo X mem sw o e) P) (k12 : (¬ 12 ≤ a3) → (¬ (mem 204 (Int32.toNatClampNeg a1)) ≤ (a3 / 3)) → ((mem 222 (Int32.toNatClampNeg (a3 / 3))) = (a3 / 3)) → (¬ (mem 194 (Int32.toNatClampNeg (mem 205 (Int32.toNatClampNeg ((4 * a1) + (a3 / 3)))))) ≤ (a3 - a3 / 3 * 3)) → ((mem 219 (Int32.toNatClampNeg a3)) = (mem 219 (Int32.toNatClampNeg a2))) → QW (d + 1) mMo_paired 77 (lMo_paired_77 a1 a2 a3 w4) [.int 1] (hpo X mem sw o e) P) : QW (d + 1) mMo_paired 2 (lMo_paired_2 a1 a2 a3 w4) [] (hpo X mem sw o e) P := by
  show QW (d + 1) mMo_paired 2 [.val (.ref 193), .val (.int a1), .val (.int a2), .val (.int a3), w4] [] (hpo X mem sw o e) P
  refine QW.iload_n dMo_paired_2 rfl rfl ?_
  refine QW.bipush (v := 12) dMo_paired_3 (by decide) ?_
  refine QW.icmp_ge (tgt := 108) dMo_paired_5 (by decide) (fun z0 => ?_) (fun z0 => ?_)
  · refine QW.aload_n dMo_paired_108 rfl rfl ?_
    refine QW.iconst (v := 0) dMo_paired_109 (by decide) ?_
    refine QW.iload_n dMo_paired_110 rfl rfl ?_
    exact MW.calV (as := [.int 0, .int a2]) (rest := []) hX dMo_paired_111 eMo_numberOf lMo_265 iMo_numberOf vMo_numberOf rfl rfl rfl rfl rfl rfl (Nat.le_of_ble_eq_true rfl) rfl (k1 z0)
  · refine QW.iload_n dMo_paired_8 rfl rfl ?_
    refine QW.iconst (v := 3) dMo_paired_9 (by decide) ?_
    refine QW.idiv dMo_paired_10 (by decide) ?_
    refine QW.aload_n dMo_paired_11 rfl rfl ?_
    refine MW.getr (r' := 204) hX dMo_paired_12 fMo_46 rfl rfl (by cases sw <;> rfl) ?_
    refine QW.iload_n dMo_paired_15 rfl rfl ?_
    refine MW.iald hX dMo_paired_16 rfl (h2 z0).1 (rep_get (h2 z0).2) ?_
    refine QW.icmp_ge (tgt := 76) dMo_paired_17 (by decide) (fun z1 => ?_) (fun z1 => ?_)
    · exact (k3 z0 z1)
    · refine QW.aload_n dMo_paired_20 rfl rfl ?_
      refine MW.getr (r' := 222) hX dMo_paired_21 fMo_100 rfl rfl (by cases sw <;> rfl) ?_
      refine QW.iload_n dMo_paired_24 rfl rfl ?_
      refine QW.iconst (v := 3) dMo_paired_25 (by decide) ?_
      refine QW.idiv dMo_paired_26 (by decide) ?_
      refine MW.iald hX dMo_paired_27 rfl (h4 z0 z1).1 (rep_get (h4 z0 z1).2) ?_
      refine QW.iload_n dMo_paired_28 rfl rfl ?_
      refine QW.iconst (v := 3) dMo_paired_29 (by decide) ?_
      refine QW.idiv dMo_paired_30 (by decide) ?_
      refine QW.icmp_ne (tgt := 76) dMo_paired_31 (by decide) (fun z2 => ?_) (fun z2 => ?_)
      · exact (k5 z0 z1 z2)
      · refine QW.iload_n dMo_paired_34 rfl rfl ?_
        refine QW.iconst (v := 3) dMo_paired_35 (by decide) ?_
        refine QW.irem dMo_paired_36 (by decide) ?_
        refine QW.aload_n dMo_paired_37 rfl rfl ?_
        refine MW.getr (r' := 194) hX dMo_paired_38 fMo_7 rfl rfl (by cases sw <;> rfl) ?_
        refine QW.aload_n dMo_paired_41 rfl rfl ?_
        refine MW.getr (r' := 205) hX dMo_paired_42 fMo_49 rfl rfl (by cases sw <;> rfl) ?_
        refine QW.iconst (v := 4) dMo_paired_45 (by decide) ?_
        refine QW.iload_n dMo_paired_46 rfl rfl ?_
        refine QW.imul dMo_paired_47 ?_
        refine QW.iload_n dMo_paired_48 rfl rfl ?_
        refine QW.iconst (v := 3) dMo_paired_49 (by decide) ?_
        refine QW.idiv dMo_paired_50 (by decide) ?_
        refine QW.iadd dMo_paired_51 ?_
        refine MW.iald hX dMo_paired_52 rfl (h6 z0 z1 z2).1 (rep_get (h6 z0 z1 z2).2) ?_
        refine MW.iald hX dMo_paired_53 rfl (h7 z0 z1 z2).1 (rep_get (h7 z0 z1 z2).2) ?_
        refine QW.icmp_ge (tgt := 76) dMo_paired_54 (by decide) (fun z3 => ?_) (fun z3 => ?_)
        · exact (k8 z0 z1 z2 z3)
        · refine QW.aload_n dMo_paired_57 rfl rfl ?_
          refine MW.getr (r' := 219) hX dMo_paired_58 fMo_91 rfl rfl (by cases sw <;> rfl) ?_
          refine QW.iload_n dMo_paired_61 rfl rfl ?_
          refine MW.iald hX dMo_paired_62 rfl (h9 z0 z1 z2 z3).1 (rep_get (h9 z0 z1 z2 z3).2) ?_
          refine QW.aload_n dMo_paired_63 rfl rfl ?_
          refine MW.getr (r' := 219) hX dMo_paired_64 fMo_91 rfl rfl (by cases sw <;> rfl) ?_
          refine QW.iload_n dMo_paired_67 rfl rfl ?_
          refine MW.iald hX dMo_paired_68 rfl (h10 z0 z1 z2 z3).1 (rep_get (h10 z0 z1 z2 z3).2) ?_
          refine QW.icmp_ne (tgt := 76) dMo_paired_69 (by decide) (fun z4 => ?_) (fun z4 => ?_)
          · exact (k11 z0 z1 z2 z3 z4)
          · refine QW.iconst (v := 1) dMo_paired_72 (by decide) ?_
            refine QW.goto (tgt := 77) dMo_paired_73 (by decide) ?_
            exact (k12 z0 z1 z2 z3 z4)
theorem bMo_paired_76 {a1 : Int32} {a2 : Int32} {a3 : Int32} {w4 : Slot} (hX : X.length = 13) (hw4 : qfr w4) (k1 : QW d mMo_paired 77 (lMo_paired_77 a1 a2 a3 w4) [.int 0] (hpo X mem sw o e) P) : QW d mMo_paired 76 (lMo_paired_76 a1 a2 a3 w4) [] (hpo X mem sw o e) P := by
  show QW d mMo_paired 76 [.val (.ref 193), .val (.int a1), .val (.int a2), .val (.int a3), w4] [] (hpo X mem sw o e) P
  refine QW.iconst (v := 0) dMo_paired_76 (by decide) ?_
  exact k1
theorem bMo_paired_77 {a1 : Int32} {a2 : Int32} {a3 : Int32} {w4 : Slot} {s0 : Int32} (hX : X.length = 13) (hw4 : qfr w4) (k1 : (s0 = 0) → QW d mMo_paired 2 (lMo_paired_2 a1 a2 (a3 + 1) (.val (.int s0))) [] (hpo X mem sw o e) P) (h2 : (¬ s0 = 0) → inx (a3 / 3) 4) (k3 : (¬ s0 = 0) → P (.inl (some (.int ((32 + (3 * (mem 223 (Int32.toNatClampNeg (a3 / 3))))) + (a3 - a3 / 3 * 3)))), (hpo X mem sw o e))) : QW d mMo_paired 77 (lMo_paired_77 a1 a2 a3 w4) [.int s0] (hpo X mem sw o e) P := by
  show QW d mMo_paired 77 [.val (.ref 193), .val (.int a1), .val (.int a2), .val (.int a3), w4] [.int s0] (hpo X mem sw o e) P
  refine QW.istore (ls' := [.val (.ref 193), .val (.int a1), .val (.int a2), .val (.int a3), .val (.int s0)]) dMo_paired_77 (by rcases hw4 with z | ⟨_, z⟩ | ⟨_, z⟩ <;> subst z <;> rfl) ?_
  refine QW.iload dMo_paired_79 rfl ?_
  refine QW.if_eq (tgt := 102) dMo_paired_81 (by decide) (fun z0 => ?_) (fun z0 => ?_)
  · refine MW.iinc (c := 1) (ls' := [.val (.ref 193), .val (.int a1), .val (.int a2), .val (.int (a3 + 1)), .val (.int s0)]) dMo_paired_102 (by decide) rfl rfl ?_
    refine QW.goto (tgt := 2) dMo_paired_105 (by decide) ?_
    exact (k1 z0)
  · refine QW.bipush (v := 32) dMo_paired_84 (by decide) ?_
    refine QW.iconst (v := 3) dMo_paired_86 (by decide) ?_
    refine QW.aload_n dMo_paired_87 rfl rfl ?_
    refine MW.getr (r' := 223) hX dMo_paired_88 fMo_103 rfl rfl (by cases sw <;> rfl) ?_
    refine QW.iload_n dMo_paired_91 rfl rfl ?_
    refine QW.iconst (v := 3) dMo_paired_92 (by decide) ?_
    refine QW.idiv dMo_paired_93 (by decide) ?_
    refine MW.iald hX dMo_paired_94 rfl (h2 z0).1 (rep_get (h2 z0).2) ?_
    refine QW.imul dMo_paired_95 ?_
    refine QW.iadd dMo_paired_96 ?_
    refine QW.iload_n dMo_paired_97 rfl rfl ?_
    refine QW.iconst (v := 3) dMo_paired_98 (by decide) ?_
    refine QW.irem dMo_paired_99 (by decide) ?_
    refine QW.iadd dMo_paired_100 ?_
    exact QW.iret dMo_paired_101 rfl rfl (k3 z0)
theorem bMo_paired_114 {a1 : Int32} {a2 : Int32} {a3 : Int32} {w4 : Slot} {s0 : Int32} (hX : X.length = 13) (hw4 : qfr w4) (k1 : QW d mMo_paired 119 (lMo_paired_119 a1 a2 s0 44) [] (hpo X mem sw o e) P) : QW d mMo_paired 114 (lMo_paired_114 a1 a2 a3 w4) [.int s0] (hpo X mem sw o e) P := by
  show QW d mMo_paired 114 [.val (.ref 193), .val (.int a1), .val (.int a2), .val (.int a3), w4] [.int s0] (hpo X mem sw o e) P
  refine QW.istore_n (ls' := [.val (.ref 193), .val (.int a1), .val (.int a2), .val (.int s0), w4]) dMo_paired_114 rfl rfl ?_
  refine QW.bipush (v := 44) dMo_paired_115 (by decide) ?_
  refine QW.istore (ls' := [.val (.ref 193), .val (.int a1), .val (.int a2), .val (.int s0), .val (.int 44)]) dMo_paired_117 (by rcases hw4 with z | ⟨_, z⟩ | ⟨_, z⟩ <;> subst z <;> rfl) ?_
  exact k1
theorem bMo_paired_119 {a1 : Int32} {a2 : Int32} {a3 : Int32} {a4 : Int32} (hX : X.length = 13) (k1 : ((44 + (mem 221 (Int32.toNatClampNeg 1))) ≤ a4) → P (.inl (some (.int (-1))), (hpo X mem sw o e))) (k2 : (¬ (44 + (mem 221 (Int32.toNatClampNeg 1))) ≤ a4) → (a3 < 0) → QW d mMo_paired 119 (lMo_paired_119 a1 a2 a3 (a4 + 1)) [] (hpo X mem sw o e) P) (h3 : (¬ (44 + (mem 221 (Int32.toNatClampNeg 1))) ≤ a4) → (¬ a3 < 0) → inx a4 64) (h4 : (¬ (44 + (mem 221 (Int32.toNatClampNeg 1))) ≤ a4) → (¬ a3 < 0) → inx a3 64) (k5 : (¬ (44 + (mem 221 (Int32.toNatClampNeg 1))) ≤ a4) → (¬ a3 < 0) → (¬ (mem 220 (Int32.toNatClampNeg a4)) = (mem 220 (Int32.toNatClampNeg a3))) → QW d mMo_paired 119 (lMo_paired_119 a1 a2 a3 (a4 + 1)) [] (hpo X mem sw o e) P) (k6 : (¬ (44 + (mem 221 (Int32.toNatClampNeg 1))) ≤ a4) → (¬ a3 < 0) → ((mem 220 (Int32.toNatClampNeg a4)) = (mem 220 (Int32.toNatClampNeg a3))) → P (.inl (some (.int a4)), (hpo X mem sw o e))) : QW d mMo_paired 119 (lMo_paired_119 a1 a2 a3 a4) [] (hpo X mem sw o e) P := by
  show QW d mMo_paired 119 [.val (.ref 193), .val (.int a1), .val (.int a2), .val (.int a3), .val (.int a4)] [] (hpo X mem sw o e) P
  refine QW.iload dMo_paired_119 rfl ?_
  refine QW.bipush (v := 44) dMo_paired_121 (by decide) ?_
  refine QW.aload_n dMo_paired_123 rfl rfl ?_
  refine MW.getr (r' := 221) hX dMo_paired_124 fMo_97 rfl rfl (by cases sw <;> rfl) ?_
  refine QW.iconst (v := 1) dMo_paired_127 (by decide) ?_
  refine MW.iald hX dMo_paired_128 rfl (show inx 1 2 from ⟨by decide, by decide⟩).1 (rep_get (show inx 1 2 from ⟨by decide, by decide⟩).2) ?_
  refine QW.iadd dMo_paired_129 ?_
  refine QW.icmp_ge (tgt := 162) dMo_paired_130 (by decide) (fun z0 => ?_) (fun z0 => ?_)
  · refine QW.iconst (v := (-1)) dMo_paired_162 (by decide) ?_
    exact QW.iret dMo_paired_163 rfl rfl (k1 z0)
  · refine QW.iload_n dMo_paired_133 rfl rfl ?_
    refine QW.if_lt (tgt := 156) dMo_paired_134 (by decide) (fun z1 => ?_) (fun z1 => ?_)
    · refine MW.iinc (c := 1) (ls' := [.val (.ref 193), .val (.int a1), .val (.int a2), .val (.int a3), .val (.int (a4 + 1))]) dMo_paired_156 (by decide) rfl rfl ?_
      refine QW.goto (tgt := 119) dMo_paired_159 (by decide) ?_
      exact (k2 z0 z1)
    · refine QW.aload_n dMo_paired_137 rfl rfl ?_
      refine MW.getr (r' := 220) hX dMo_paired_138 fMo_94 rfl rfl (by cases sw <;> rfl) ?_
      refine QW.iload dMo_paired_141 rfl ?_
      refine MW.iald hX dMo_paired_143 rfl (h3 z0 z1).1 (rep_get (h3 z0 z1).2) ?_
      refine QW.aload_n dMo_paired_144 rfl rfl ?_
      refine MW.getr (r' := 220) hX dMo_paired_145 fMo_94 rfl rfl (by cases sw <;> rfl) ?_
      refine QW.iload_n dMo_paired_148 rfl rfl ?_
      refine MW.iald hX dMo_paired_149 rfl (h4 z0 z1).1 (rep_get (h4 z0 z1).2) ?_
      refine QW.icmp_ne (tgt := 156) dMo_paired_150 (by decide) (fun z2 => ?_) (fun z2 => ?_)
      · refine MW.iinc (c := 1) (ls' := [.val (.ref 193), .val (.int a1), .val (.int a2), .val (.int a3), .val (.int (a4 + 1))]) dMo_paired_156 (by decide) rfl rfl ?_
        refine QW.goto (tgt := 119) dMo_paired_159 (by decide) ?_
        exact (k5 z0 z1 z2)
      · refine QW.iload dMo_paired_153 rfl ?_
        exact QW.iret dMo_paired_155 rfl rfl (k6 z0 z1 z2)
theorem dMo_goWith_0 : decode mMo_goWith.2.1 0 = .ok (.aload_n 0, 1) := by decide +kernel
theorem dMo_goWith_1 : decode mMo_goWith.2.1 1 = .ok (.iload_n 1, 1) := by decide +kernel
theorem dMo_goWith_2 : decode mMo_goWith.2.1 2 = .ok (.iload_n 2, 1) := by decide +kernel
theorem dMo_goWith_3 : decode mMo_goWith.2.1 3 = .ok (.invokevirtual 268, 3) := by decide +kernel
theorem dMo_goWith_6 : decode mMo_goWith.2.1 6 = .ok (.istore 4, 2) := by decide +kernel
theorem dMo_goWith_8 : decode mMo_goWith.2.1 8 = .ok (.iload 4, 2) := by decide +kernel
theorem dMo_goWith_10 : decode mMo_goWith.2.1 10 = .ok (.ifCond .lt 23, 3) := by decide +kernel
theorem dMo_goWith_13 : decode mMo_goWith.2.1 13 = .ok (.aload_n 0, 1) := by decide +kernel
theorem dMo_goWith_14 : decode mMo_goWith.2.1 14 = .ok (.getfield 91, 3) := by decide +kernel
theorem dMo_goWith_17 : decode mMo_goWith.2.1 17 = .ok (.iload 4, 2) := by decide +kernel
theorem dMo_goWith_19 : decode mMo_goWith.2.1 19 = .ok (.iaload, 1) := by decide +kernel
theorem dMo_goWith_20 : decode mMo_goWith.2.1 20 = .ok (.aload_n 0, 1) := by decide +kernel
theorem dMo_goWith_21 : decode mMo_goWith.2.1 21 = .ok (.getfield 91, 3) := by decide +kernel
theorem dMo_goWith_24 : decode mMo_goWith.2.1 24 = .ok (.iload_n 3, 1) := by decide +kernel
theorem dMo_goWith_25 : decode mMo_goWith.2.1 25 = .ok (.iaload, 1) := by decide +kernel
theorem dMo_goWith_26 : decode mMo_goWith.2.1 26 = .ok (.if_icmp .ne 7, 3) := by decide +kernel
theorem dMo_goWith_29 : decode mMo_goWith.2.1 29 = .ok (.iconst 1, 1) := by decide +kernel
theorem dMo_goWith_30 : decode mMo_goWith.2.1 30 = .ok (.goto 4, 3) := by decide +kernel
theorem dMo_goWith_33 : decode mMo_goWith.2.1 33 = .ok (.iconst 0, 1) := by decide +kernel
theorem dMo_goWith_34 : decode mMo_goWith.2.1 34 = .ok (.ireturn, 1) := by decide +kernel
def lMo_goWith_6 (a1 : Int32) (a2 : Int32) (a3 : Int32) : List Slot := [.val (.ref 193), .val (.int a1), .val (.int a2), .val (.int a3), .unset]
theorem bMo_goWith_0 {a1 : Int32} {a2 : Int32} {a3 : Int32} (hX : X.length = 13) (k1 : QW d mMo_paired 0 (qen 5 [.ref 193, .int a1, .int a2]) [] (hpo X mem sw o e) (qcl d mMo_goWith 3 6 (lMo_goWith_6 a1 a2 a3) [] P)) : QW (d + 1) mMo_goWith 0 (qen 5 [.ref 193, .int a1, .int a2, .int a3]) [] (hpo X mem sw o e) P := by
  show QW (d + 1) mMo_goWith 0 [.val (.ref 193), .val (.int a1), .val (.int a2), .val (.int a3), .unset] [] (hpo X mem sw o e) P
  refine QW.aload_n dMo_goWith_0 rfl rfl ?_
  refine QW.iload_n dMo_goWith_1 rfl rfl ?_
  refine QW.iload_n dMo_goWith_2 rfl rfl ?_
  exact MW.calV (as := [.int a1, .int a2]) (rest := []) hX dMo_goWith_3 eMo_paired lMo_268 iMo_paired vMo_paired rfl rfl rfl rfl rfl rfl (Nat.le_of_ble_eq_true rfl) rfl k1
theorem bMo_goWith_6 {a1 : Int32} {a2 : Int32} {a3 : Int32} {s0 : Int32} (hX : X.length = 13) (k1 : (s0 < 0) → P (.inl (some (.int 0)), (hpo X mem sw o e))) (h2 : (¬ s0 < 0) → inx s0 64) (h3 : (¬ s0 < 0) → inx a3 64) (k4 : (¬ s0 < 0) → (¬ (mem 219 (Int32.toNatClampNeg s0)) = (mem 219 (Int32.toNatClampNeg a3))) → P (.inl (some (.int 0)), (hpo X mem sw o e))) (k5 : (¬ s0 < 0) → ((mem 219 (Int32.toNatClampNeg s0)) = (mem 219 (Int32.toNatClampNeg a3))) → P (.inl (some (.int 1)), (hpo X mem sw o e))) : QW d mMo_goWith 6 (lMo_goWith_6 a1 a2 a3) [.int s0] (hpo X mem sw o e) P := by
  show QW d mMo_goWith 6 [.val (.ref 193), .val (.int a1), .val (.int a2), .val (.int a3), .unset] [.int s0] (hpo X mem sw o e) P
  refine QW.istore (ls' := [.val (.ref 193), .val (.int a1), .val (.int a2), .val (.int a3), .val (.int s0)]) dMo_goWith_6 rfl ?_
  refine QW.iload dMo_goWith_8 rfl ?_
  refine QW.if_lt (tgt := 33) dMo_goWith_10 (by decide) (fun z0 => ?_) (fun z0 => ?_)
  · refine QW.iconst (v := 0) dMo_goWith_33 (by decide) ?_
    exact QW.iret dMo_goWith_34 rfl rfl (k1 z0)
  · refine QW.aload_n dMo_goWith_13 rfl rfl ?_
    refine MW.getr (r' := 219) hX dMo_goWith_14 fMo_91 rfl rfl (by cases sw <;> rfl) ?_
    refine QW.iload dMo_goWith_17 rfl ?_
    refine MW.iald hX dMo_goWith_19 rfl (h2 z0).1 (rep_get (h2 z0).2) ?_
    refine QW.aload_n dMo_goWith_20 rfl rfl ?_
    refine MW.getr (r' := 219) hX dMo_goWith_21 fMo_91 rfl rfl (by cases sw <;> rfl) ?_
    refine QW.iload_n dMo_goWith_24 rfl rfl ?_
    refine MW.iald hX dMo_goWith_25 rfl (h3 z0).1 (rep_get (h3 z0).2) ?_
    refine QW.icmp_ne (tgt := 33) dMo_goWith_26 (by decide) (fun z1 => ?_) (fun z1 => ?_)
    · refine QW.iconst (v := 0) dMo_goWith_33 (by decide) ?_
      exact QW.iret dMo_goWith_34 rfl rfl (k4 z0 z1)
    · refine QW.iconst (v := 1) dMo_goWith_29 (by decide) ?_
      refine QW.goto (tgt := 34) dMo_goWith_30 (by decide) ?_
      exact QW.iret dMo_goWith_34 rfl rfl (k5 z0 z1)
theorem dMo_classesGo_0 : decode mMo_classesGo.2.1 0 = .ok (.iconst 0, 1) := by decide +kernel
theorem dMo_classesGo_1 : decode mMo_classesGo.2.1 1 = .ok (.istore_n 2, 1) := by decide +kernel
theorem dMo_classesGo_2 : decode mMo_classesGo.2.1 2 = .ok (.iload_n 2, 1) := by decide +kernel
theorem dMo_classesGo_3 : decode mMo_classesGo.2.1 3 = .ok (.bipush 12, 2) := by decide +kernel
theorem dMo_classesGo_5 : decode mMo_classesGo.2.1 5 = .ok (.if_icmp .ge 259, 3) := by decide +kernel
theorem dMo_classesGo_8 : decode mMo_classesGo.2.1 8 = .ok (.iload_n 2, 1) := by decide +kernel
theorem dMo_classesGo_9 : decode mMo_classesGo.2.1 9 = .ok (.iconst 3, 1) := by decide +kernel
theorem dMo_classesGo_10 : decode mMo_classesGo.2.1 10 = .ok (.idiv, 1) := by decide +kernel
theorem dMo_classesGo_11 : decode mMo_classesGo.2.1 11 = .ok (.aload_n 0, 1) := by decide +kernel
theorem dMo_classesGo_12 : decode mMo_classesGo.2.1 12 = .ok (.getfield 46, 3) := by decide +kernel
theorem dMo_classesGo_15 : decode mMo_classesGo.2.1 15 = .ok (.iload_n 1, 1) := by decide +kernel
theorem dMo_classesGo_16 : decode mMo_classesGo.2.1 16 = .ok (.iaload, 1) := by decide +kernel
theorem dMo_classesGo_17 : decode mMo_classesGo.2.1 17 = .ok (.if_icmp .ge 241, 3) := by decide +kernel
theorem dMo_classesGo_20 : decode mMo_classesGo.2.1 20 = .ok (.aload_n 0, 1) := by decide +kernel
theorem dMo_classesGo_21 : decode mMo_classesGo.2.1 21 = .ok (.getfield 100, 3) := by decide +kernel
theorem dMo_classesGo_24 : decode mMo_classesGo.2.1 24 = .ok (.iload_n 2, 1) := by decide +kernel
theorem dMo_classesGo_25 : decode mMo_classesGo.2.1 25 = .ok (.iconst 3, 1) := by decide +kernel
theorem dMo_classesGo_26 : decode mMo_classesGo.2.1 26 = .ok (.idiv, 1) := by decide +kernel
theorem dMo_classesGo_27 : decode mMo_classesGo.2.1 27 = .ok (.iaload, 1) := by decide +kernel
theorem dMo_classesGo_28 : decode mMo_classesGo.2.1 28 = .ok (.iload_n 2, 1) := by decide +kernel
theorem dMo_classesGo_29 : decode mMo_classesGo.2.1 29 = .ok (.iconst 3, 1) := by decide +kernel
theorem dMo_classesGo_30 : decode mMo_classesGo.2.1 30 = .ok (.idiv, 1) := by decide +kernel
theorem dMo_classesGo_31 : decode mMo_classesGo.2.1 31 = .ok (.if_icmp .ne 227, 3) := by decide +kernel
theorem dMo_classesGo_34 : decode mMo_classesGo.2.1 34 = .ok (.iload_n 2, 1) := by decide +kernel
theorem dMo_classesGo_35 : decode mMo_classesGo.2.1 35 = .ok (.iconst 3, 1) := by decide +kernel
theorem dMo_classesGo_36 : decode mMo_classesGo.2.1 36 = .ok (.irem, 1) := by decide +kernel
theorem dMo_classesGo_37 : decode mMo_classesGo.2.1 37 = .ok (.aload_n 0, 1) := by decide +kernel
theorem dMo_classesGo_38 : decode mMo_classesGo.2.1 38 = .ok (.getfield 7, 3) := by decide +kernel
theorem dMo_classesGo_41 : decode mMo_classesGo.2.1 41 = .ok (.aload_n 0, 1) := by decide +kernel
theorem dMo_classesGo_42 : decode mMo_classesGo.2.1 42 = .ok (.getfield 49, 3) := by decide +kernel
theorem dMo_classesGo_45 : decode mMo_classesGo.2.1 45 = .ok (.iconst 4, 1) := by decide +kernel
theorem dMo_classesGo_46 : decode mMo_classesGo.2.1 46 = .ok (.iload_n 1, 1) := by decide +kernel
theorem dMo_classesGo_47 : decode mMo_classesGo.2.1 47 = .ok (.imul, 1) := by decide +kernel
theorem dMo_classesGo_48 : decode mMo_classesGo.2.1 48 = .ok (.iload_n 2, 1) := by decide +kernel
theorem dMo_classesGo_49 : decode mMo_classesGo.2.1 49 = .ok (.iconst 3, 1) := by decide +kernel
theorem dMo_classesGo_50 : decode mMo_classesGo.2.1 50 = .ok (.idiv, 1) := by decide +kernel
theorem dMo_classesGo_51 : decode mMo_classesGo.2.1 51 = .ok (.iadd, 1) := by decide +kernel
theorem dMo_classesGo_52 : decode mMo_classesGo.2.1 52 = .ok (.iaload, 1) := by decide +kernel
theorem dMo_classesGo_53 : decode mMo_classesGo.2.1 53 = .ok (.iaload, 1) := by decide +kernel
theorem dMo_classesGo_54 : decode mMo_classesGo.2.1 54 = .ok (.if_icmp .ge 204, 3) := by decide +kernel
theorem dMo_classesGo_57 : decode mMo_classesGo.2.1 57 = .ok (.bipush 32, 2) := by decide +kernel
theorem dMo_classesGo_59 : decode mMo_classesGo.2.1 59 = .ok (.iconst 3, 1) := by decide +kernel
theorem dMo_classesGo_60 : decode mMo_classesGo.2.1 60 = .ok (.aload_n 0, 1) := by decide +kernel
theorem dMo_classesGo_61 : decode mMo_classesGo.2.1 61 = .ok (.getfield 103, 3) := by decide +kernel
theorem dMo_classesGo_64 : decode mMo_classesGo.2.1 64 = .ok (.iload_n 2, 1) := by decide +kernel
theorem dMo_classesGo_65 : decode mMo_classesGo.2.1 65 = .ok (.iconst 3, 1) := by decide +kernel
theorem dMo_classesGo_66 : decode mMo_classesGo.2.1 66 = .ok (.idiv, 1) := by decide +kernel
theorem dMo_classesGo_67 : decode mMo_classesGo.2.1 67 = .ok (.iaload, 1) := by decide +kernel
theorem dMo_classesGo_68 : decode mMo_classesGo.2.1 68 = .ok (.imul, 1) := by decide +kernel
theorem dMo_classesGo_69 : decode mMo_classesGo.2.1 69 = .ok (.iadd, 1) := by decide +kernel
theorem dMo_classesGo_70 : decode mMo_classesGo.2.1 70 = .ok (.iload_n 2, 1) := by decide +kernel
theorem dMo_classesGo_71 : decode mMo_classesGo.2.1 71 = .ok (.iconst 3, 1) := by decide +kernel
theorem dMo_classesGo_72 : decode mMo_classesGo.2.1 72 = .ok (.irem, 1) := by decide +kernel
theorem dMo_classesGo_73 : decode mMo_classesGo.2.1 73 = .ok (.iadd, 1) := by decide +kernel
theorem dMo_classesGo_74 : decode mMo_classesGo.2.1 74 = .ok (.istore_n 3, 1) := by decide +kernel
theorem dMo_classesGo_75 : decode mMo_classesGo.2.1 75 = .ok (.aload_n 0, 1) := by decide +kernel
theorem dMo_classesGo_76 : decode mMo_classesGo.2.1 76 = .ok (.iconst 0, 1) := by decide +kernel
theorem dMo_classesGo_77 : decode mMo_classesGo.2.1 77 = .ok (.iload_n 2, 1) := by decide +kernel
theorem dMo_classesGo_78 : decode mMo_classesGo.2.1 78 = .ok (.invokevirtual 265, 3) := by decide +kernel
theorem dMo_classesGo_81 : decode mMo_classesGo.2.1 81 = .ok (.istore 4, 2) := by decide +kernel
theorem dMo_classesGo_83 : decode mMo_classesGo.2.1 83 = .ok (.aload_n 0, 1) := by decide +kernel
theorem dMo_classesGo_84 : decode mMo_classesGo.2.1 84 = .ok (.iconst 1, 1) := by decide +kernel
theorem dMo_classesGo_85 : decode mMo_classesGo.2.1 85 = .ok (.iload_n 3, 1) := by decide +kernel
theorem dMo_classesGo_86 : decode mMo_classesGo.2.1 86 = .ok (.invokevirtual 265, 3) := by decide +kernel
theorem dMo_classesGo_89 : decode mMo_classesGo.2.1 89 = .ok (.istore 5, 2) := by decide +kernel
theorem dMo_classesGo_91 : decode mMo_classesGo.2.1 91 = .ok (.iload 4, 2) := by decide +kernel
theorem dMo_classesGo_93 : decode mMo_classesGo.2.1 93 = .ok (.ifCond .ge 7, 3) := by decide +kernel
theorem dMo_classesGo_96 : decode mMo_classesGo.2.1 96 = .ok (.iconst 1, 1) := by decide +kernel
theorem dMo_classesGo_97 : decode mMo_classesGo.2.1 97 = .ok (.goto 4, 3) := by decide +kernel
theorem dMo_classesGo_100 : decode mMo_classesGo.2.1 100 = .ok (.iconst 0, 1) := by decide +kernel
theorem dMo_classesGo_101 : decode mMo_classesGo.2.1 101 = .ok (.iload 5, 2) := by decide +kernel
theorem dMo_classesGo_103 : decode mMo_classesGo.2.1 103 = .ok (.ifCond .ge 7, 3) := by decide +kernel
theorem dMo_classesGo_106 : decode mMo_classesGo.2.1 106 = .ok (.iconst 1, 1) := by decide +kernel
theorem dMo_classesGo_107 : decode mMo_classesGo.2.1 107 = .ok (.goto 4, 3) := by decide +kernel
theorem dMo_classesGo_110 : decode mMo_classesGo.2.1 110 = .ok (.iconst 0, 1) := by decide +kernel
theorem dMo_classesGo_111 : decode mMo_classesGo.2.1 111 = .ok (.if_icmp .ne 25, 3) := by decide +kernel
theorem dMo_classesGo_114 : decode mMo_classesGo.2.1 114 = .ok (.iload 4, 2) := by decide +kernel
theorem dMo_classesGo_116 : decode mMo_classesGo.2.1 116 = .ok (.ifCond .lt 22, 3) := by decide +kernel
theorem dMo_classesGo_119 : decode mMo_classesGo.2.1 119 = .ok (.aload_n 0, 1) := by decide +kernel
theorem dMo_classesGo_120 : decode mMo_classesGo.2.1 120 = .ok (.getfield 94, 3) := by decide +kernel
theorem dMo_classesGo_123 : decode mMo_classesGo.2.1 123 = .ok (.iload 4, 2) := by decide +kernel
theorem dMo_classesGo_125 : decode mMo_classesGo.2.1 125 = .ok (.iaload, 1) := by decide +kernel
theorem dMo_classesGo_126 : decode mMo_classesGo.2.1 126 = .ok (.aload_n 0, 1) := by decide +kernel
theorem dMo_classesGo_127 : decode mMo_classesGo.2.1 127 = .ok (.getfield 94, 3) := by decide +kernel
theorem dMo_classesGo_130 : decode mMo_classesGo.2.1 130 = .ok (.iload 5, 2) := by decide +kernel
theorem dMo_classesGo_132 : decode mMo_classesGo.2.1 132 = .ok (.iaload, 1) := by decide +kernel
theorem dMo_classesGo_133 : decode mMo_classesGo.2.1 133 = .ok (.if_icmp .eq 5, 3) := by decide +kernel
theorem dMo_classesGo_136 : decode mMo_classesGo.2.1 136 = .ok (.iconst 0, 1) := by decide +kernel
theorem dMo_classesGo_137 : decode mMo_classesGo.2.1 137 = .ok (.ireturn, 1) := by decide +kernel
theorem dMo_classesGo_138 : decode mMo_classesGo.2.1 138 = .ok (.iconst 0, 1) := by decide +kernel
theorem dMo_classesGo_139 : decode mMo_classesGo.2.1 139 = .ok (.istore 6, 2) := by decide +kernel
theorem dMo_classesGo_141 : decode mMo_classesGo.2.1 141 = .ok (.iload 6, 2) := by decide +kernel
theorem dMo_classesGo_143 : decode mMo_classesGo.2.1 143 = .ok (.iload_n 2, 1) := by decide +kernel
theorem dMo_classesGo_144 : decode mMo_classesGo.2.1 144 = .ok (.if_icmp .ge 114, 3) := by decide +kernel
theorem dMo_classesGo_147 : decode mMo_classesGo.2.1 147 = .ok (.aload_n 0, 1) := by decide +kernel
theorem dMo_classesGo_148 : decode mMo_classesGo.2.1 148 = .ok (.getfield 100, 3) := by decide +kernel
theorem dMo_classesGo_151 : decode mMo_classesGo.2.1 151 = .ok (.iload 6, 2) := by decide +kernel
theorem dMo_classesGo_153 : decode mMo_classesGo.2.1 153 = .ok (.iconst 3, 1) := by decide +kernel
theorem dMo_classesGo_154 : decode mMo_classesGo.2.1 154 = .ok (.idiv, 1) := by decide +kernel
theorem dMo_classesGo_155 : decode mMo_classesGo.2.1 155 = .ok (.iaload, 1) := by decide +kernel
theorem dMo_classesGo_156 : decode mMo_classesGo.2.1 156 = .ok (.iload 6, 2) := by decide +kernel
theorem dMo_classesGo_158 : decode mMo_classesGo.2.1 158 = .ok (.iconst 3, 1) := by decide +kernel
theorem dMo_classesGo_159 : decode mMo_classesGo.2.1 159 = .ok (.idiv, 1) := by decide +kernel
theorem dMo_classesGo_160 : decode mMo_classesGo.2.1 160 = .ok (.if_icmp .ne 92, 3) := by decide +kernel
theorem dMo_classesGo_163 : decode mMo_classesGo.2.1 163 = .ok (.iload 6, 2) := by decide +kernel
theorem dMo_classesGo_165 : decode mMo_classesGo.2.1 165 = .ok (.iconst 3, 1) := by decide +kernel
theorem dMo_classesGo_166 : decode mMo_classesGo.2.1 166 = .ok (.irem, 1) := by decide +kernel
theorem dMo_classesGo_167 : decode mMo_classesGo.2.1 167 = .ok (.aload_n 0, 1) := by decide +kernel
theorem dMo_classesGo_168 : decode mMo_classesGo.2.1 168 = .ok (.getfield 7, 3) := by decide +kernel
theorem dMo_classesGo_171 : decode mMo_classesGo.2.1 171 = .ok (.aload_n 0, 1) := by decide +kernel
theorem dMo_classesGo_172 : decode mMo_classesGo.2.1 172 = .ok (.getfield 49, 3) := by decide +kernel
theorem dMo_classesGo_175 : decode mMo_classesGo.2.1 175 = .ok (.iconst 4, 1) := by decide +kernel
theorem dMo_classesGo_176 : decode mMo_classesGo.2.1 176 = .ok (.iload_n 1, 1) := by decide +kernel
theorem dMo_classesGo_177 : decode mMo_classesGo.2.1 177 = .ok (.imul, 1) := by decide +kernel
theorem dMo_classesGo_178 : decode mMo_classesGo.2.1 178 = .ok (.iload 6, 2) := by decide +kernel
theorem dMo_classesGo_180 : decode mMo_classesGo.2.1 180 = .ok (.iconst 3, 1) := by decide +kernel
theorem dMo_classesGo_181 : decode mMo_classesGo.2.1 181 = .ok (.idiv, 1) := by decide +kernel
theorem dMo_classesGo_182 : decode mMo_classesGo.2.1 182 = .ok (.iadd, 1) := by decide +kernel
theorem dMo_classesGo_183 : decode mMo_classesGo.2.1 183 = .ok (.iaload, 1) := by decide +kernel
theorem dMo_classesGo_184 : decode mMo_classesGo.2.1 184 = .ok (.iaload, 1) := by decide +kernel
theorem dMo_classesGo_185 : decode mMo_classesGo.2.1 185 = .ok (.if_icmp .ge 67, 3) := by decide +kernel
theorem dMo_classesGo_188 : decode mMo_classesGo.2.1 188 = .ok (.aload_n 0, 1) := by decide +kernel
theorem dMo_classesGo_189 : decode mMo_classesGo.2.1 189 = .ok (.getfield 91, 3) := by decide +kernel
theorem dMo_classesGo_192 : decode mMo_classesGo.2.1 192 = .ok (.iload 6, 2) := by decide +kernel
theorem dMo_classesGo_194 : decode mMo_classesGo.2.1 194 = .ok (.iaload, 1) := by decide +kernel
theorem dMo_classesGo_195 : decode mMo_classesGo.2.1 195 = .ok (.aload_n 0, 1) := by decide +kernel
theorem dMo_classesGo_196 : decode mMo_classesGo.2.1 196 = .ok (.getfield 91, 3) := by decide +kernel
theorem dMo_classesGo_199 : decode mMo_classesGo.2.1 199 = .ok (.iload_n 2, 1) := by decide +kernel
theorem dMo_classesGo_200 : decode mMo_classesGo.2.1 200 = .ok (.iaload, 1) := by decide +kernel
theorem dMo_classesGo_201 : decode mMo_classesGo.2.1 201 = .ok (.if_icmp .ne 7, 3) := by decide +kernel
theorem dMo_classesGo_204 : decode mMo_classesGo.2.1 204 = .ok (.iconst 1, 1) := by decide +kernel
theorem dMo_classesGo_205 : decode mMo_classesGo.2.1 205 = .ok (.goto 4, 3) := by decide +kernel
theorem dMo_classesGo_208 : decode mMo_classesGo.2.1 208 = .ok (.iconst 0, 1) := by decide +kernel
theorem dMo_classesGo_209 : decode mMo_classesGo.2.1 209 = .ok (.aload_n 0, 1) := by decide +kernel
theorem dMo_classesGo_210 : decode mMo_classesGo.2.1 210 = .ok (.getfield 91, 3) := by decide +kernel
theorem dMo_classesGo_213 : decode mMo_classesGo.2.1 213 = .ok (.bipush 32, 2) := by decide +kernel
theorem dMo_classesGo_215 : decode mMo_classesGo.2.1 215 = .ok (.iconst 3, 1) := by decide +kernel
theorem dMo_classesGo_216 : decode mMo_classesGo.2.1 216 = .ok (.aload_n 0, 1) := by decide +kernel
theorem dMo_classesGo_217 : decode mMo_classesGo.2.1 217 = .ok (.getfield 103, 3) := by decide +kernel
theorem dMo_classesGo_220 : decode mMo_classesGo.2.1 220 = .ok (.iload 6, 2) := by decide +kernel
theorem dMo_classesGo_222 : decode mMo_classesGo.2.1 222 = .ok (.iconst 3, 1) := by decide +kernel
theorem dMo_classesGo_223 : decode mMo_classesGo.2.1 223 = .ok (.idiv, 1) := by decide +kernel
theorem dMo_classesGo_224 : decode mMo_classesGo.2.1 224 = .ok (.iaload, 1) := by decide +kernel
theorem dMo_classesGo_225 : decode mMo_classesGo.2.1 225 = .ok (.imul, 1) := by decide +kernel
theorem dMo_classesGo_226 : decode mMo_classesGo.2.1 226 = .ok (.iadd, 1) := by decide +kernel
theorem dMo_classesGo_227 : decode mMo_classesGo.2.1 227 = .ok (.iload 6, 2) := by decide +kernel
theorem dMo_classesGo_229 : decode mMo_classesGo.2.1 229 = .ok (.iconst 3, 1) := by decide +kernel
theorem dMo_classesGo_230 : decode mMo_classesGo.2.1 230 = .ok (.irem, 1) := by decide +kernel
theorem dMo_classesGo_231 : decode mMo_classesGo.2.1 231 = .ok (.iadd, 1) := by decide +kernel
theorem dMo_classesGo_232 : decode mMo_classesGo.2.1 232 = .ok (.iaload, 1) := by decide +kernel
theorem dMo_classesGo_233 : decode mMo_classesGo.2.1 233 = .ok (.aload_n 0, 1) := by decide +kernel
theorem dMo_classesGo_234 : decode mMo_classesGo.2.1 234 = .ok (.getfield 91, 3) := by decide +kernel
theorem dMo_classesGo_237 : decode mMo_classesGo.2.1 237 = .ok (.iload_n 3, 1) := by decide +kernel
theorem dMo_classesGo_238 : decode mMo_classesGo.2.1 238 = .ok (.iaload, 1) := by decide +kernel
theorem dMo_classesGo_239 : decode mMo_classesGo.2.1 239 = .ok (.if_icmp .ne 7, 3) := by decide +kernel
theorem dMo_classesGo_242 : decode mMo_classesGo.2.1 242 = .ok (.iconst 1, 1) := by decide +kernel
theorem dMo_classesGo_243 : decode mMo_classesGo.2.1 243 = .ok (.goto 4, 3) := by decide +kernel
theorem dMo_classesGo_246 : decode mMo_classesGo.2.1 246 = .ok (.iconst 0, 1) := by decide +kernel
theorem dMo_classesGo_247 : decode mMo_classesGo.2.1 247 = .ok (.if_icmp .eq 5, 3) := by decide +kernel
theorem dMo_classesGo_250 : decode mMo_classesGo.2.1 250 = .ok (.iconst 0, 1) := by decide +kernel
theorem dMo_classesGo_251 : decode mMo_classesGo.2.1 251 = .ok (.ireturn, 1) := by decide +kernel
theorem dMo_classesGo_252 : decode mMo_classesGo.2.1 252 = .ok (.iinc 6 1, 3) := by decide +kernel
theorem dMo_classesGo_255 : decode mMo_classesGo.2.1 255 = .ok (.goto (-114), 3) := by decide +kernel
theorem dMo_classesGo_258 : decode mMo_classesGo.2.1 258 = .ok (.iinc 2 1, 3) := by decide +kernel
theorem dMo_classesGo_261 : decode mMo_classesGo.2.1 261 = .ok (.goto (-259), 3) := by decide +kernel
theorem dMo_classesGo_264 : decode mMo_classesGo.2.1 264 = .ok (.iconst 1, 1) := by decide +kernel
theorem dMo_classesGo_265 : decode mMo_classesGo.2.1 265 = .ok (.ireturn, 1) := by decide +kernel
def lMo_classesGo_2 (a1 : Int32) (a2 : Int32) (w3 : Slot) (w4 : Slot) (w5 : Slot) (w6 : Slot) : List Slot := [.val (.ref 193), .val (.int a1), .val (.int a2), w3, w4, w5, w6]
def lMo_classesGo_81 (a1 : Int32) (a2 : Int32) (a3 : Int32) (w4 : Slot) (w5 : Slot) (w6 : Slot) : List Slot := [.val (.ref 193), .val (.int a1), .val (.int a2), .val (.int a3), w4, w5, w6]
def lMo_classesGo_89 (a1 : Int32) (a2 : Int32) (a3 : Int32) (a4 : Int32) (w5 : Slot) (w6 : Slot) : List Slot := [.val (.ref 193), .val (.int a1), .val (.int a2), .val (.int a3), .val (.int a4), w5, w6]
def lMo_classesGo_101 (a1 : Int32) (a2 : Int32) (a3 : Int32) (a4 : Int32) (a5 : Int32) (w6 : Slot) : List Slot := [.val (.ref 193), .val (.int a1), .val (.int a2), .val (.int a3), .val (.int a4), .val (.int a5), w6]
def lMo_classesGo_111 (a1 : Int32) (a2 : Int32) (a3 : Int32) (a4 : Int32) (a5 : Int32) (w6 : Slot) : List Slot := [.val (.ref 193), .val (.int a1), .val (.int a2), .val (.int a3), .val (.int a4), .val (.int a5), w6]
def lMo_classesGo_138 (a1 : Int32) (a2 : Int32) (a3 : Int32) (a4 : Int32) (a5 : Int32) (w6 : Slot) : List Slot := [.val (.ref 193), .val (.int a1), .val (.int a2), .val (.int a3), .val (.int a4), .val (.int a5), w6]
def lMo_classesGo_141 (a1 : Int32) (a2 : Int32) (a3 : Int32) (a4 : Int32) (a5 : Int32) (a6 : Int32) : List Slot := [.val (.ref 193), .val (.int a1), .val (.int a2), .val (.int a3), .val (.int a4), .val (.int a5), .val (.int a6)]
def lMo_classesGo_209 (a1 : Int32) (a2 : Int32) (a3 : Int32) (a4 : Int32) (a5 : Int32) (a6 : Int32) : List Slot := [.val (.ref 193), .val (.int a1), .val (.int a2), .val (.int a3), .val (.int a4), .val (.int a5), .val (.int a6)]
def lMo_classesGo_247 (a1 : Int32) (a2 : Int32) (a3 : Int32) (a4 : Int32) (a5 : Int32) (a6 : Int32) : List Slot := [.val (.ref 193), .val (.int a1), .val (.int a2), .val (.int a3), .val (.int a4), .val (.int a5), .val (.int a6)]
theorem bMo_classesGo_0 {a1 : Int32} (hX : X.length = 13) (k1 : QW d mMo_classesGo 2 (lMo_classesGo_2 a1 0 .unset .unset .unset .unset) [] (hpo X mem sw o e) P) : QW d mMo_classesGo 0 (qen 7 [.ref 193, .int a1]) [] (hpo X mem sw o e) P := by
  show QW d mMo_classesGo 0 [.val (.ref 193), .val (.int a1), .unset, .unset, .unset, .unset, .unset] [] (hpo X mem sw o e) P
  refine QW.iconst (v := 0) dMo_classesGo_0 (by decide) ?_
  refine QW.istore_n (ls' := [.val (.ref 193), .val (.int a1), .val (.int 0), .unset, .unset, .unset, .unset]) dMo_classesGo_1 rfl rfl ?_
  exact k1
theorem bMo_classesGo_2 {a1 : Int32} {a2 : Int32} {w3 : Slot} {w4 : Slot} {w5 : Slot} {w6 : Slot} (hX : X.length = 13) (hw3 : qfr w3) (hw4 : qfr w4) (hw5 : qfr w5) (hw6 : qfr w6) (k1 : (12 ≤ a2) → P (.inl (some (.int 1)), (hpo X mem sw o e))) (h2 : (¬ 12 ≤ a2) → inx a1 15) (k3 : (¬ 12 ≤ a2) → ((mem 204 (Int32.toNatClampNeg a1)) ≤ (a2 / 3)) → QW (d + 1) mMo_classesGo 2 (lMo_classesGo_2 a1 (a2 + 1) w3 w4 w5 w6) [] (hpo X mem sw o e) P) (h4 : (¬ 12 ≤ a2) → (¬ (mem 204 (Int32.toNatClampNeg a1)) ≤ (a2 / 3)) → inx (a2 / 3) 8) (k5 : (¬ 12 ≤ a2) → (¬ (mem 204 (Int32.toNatClampNeg a1)) ≤ (a2 / 3)) → (¬ (mem 222 (Int32.toNatClampNeg (a2 / 3))) = (a2 / 3)) → QW (d + 1) mMo_classesGo 2 (lMo_classesGo_2 a1 (a2 + 1) w3 w4 w5 w6) [] (hpo X mem sw o e) P) (h6 : (¬ 12 ≤ a2) → (¬ (mem 204 (Int32.toNatClampNeg a1)) ≤ (a2 / 3)) → ((mem 222 (Int32.toNatClampNeg (a2 / 3))) = (a2 / 3)) → inx ((4 * a1) + (a2 / 3)) 60) (h7 : (¬ 12 ≤ a2) → (¬ (mem 204 (Int32.toNatClampNeg a1)) ≤ (a2 / 3)) → ((mem 222 (Int32.toNatClampNeg (a2 / 3))) = (a2 / 3)) → inx (mem 205 (Int32.toNatClampNeg ((4 * a1) + (a2 / 3)))) 4) (k8 : (¬ 12 ≤ a2) → (¬ (mem 204 (Int32.toNatClampNeg a1)) ≤ (a2 / 3)) → ((mem 222 (Int32.toNatClampNeg (a2 / 3))) = (a2 / 3)) → ((mem 194 (Int32.toNatClampNeg (mem 205 (Int32.toNatClampNeg ((4 * a1) + (a2 / 3)))))) ≤ (a2 - a2 / 3 * 3)) → QW (d + 1) mMo_classesGo 2 (lMo_classesGo_2 a1 (a2 + 1) w3 w4 w5 w6) [] (hpo X mem sw o e) P) (h9 : (¬ 12 ≤ a2) → (¬ (mem 204 (Int32.toNatClampNeg a1)) ≤ (a2 / 3)) → ((mem 222 (Int32.toNatClampNeg (a2 / 3))) = (a2 / 3)) → (¬ (mem 194 (Int32.toNatClampNeg (mem 205 (Int32.toNatClampNeg ((4 * a1) + (a2 / 3)))))) ≤ (a2 - a2 / 3 * 3)) → inx (a2 / 3) 4) (k10 : (¬ 12 ≤ a2) → (¬ (mem 204 (Int32.toNatClampNeg a1)) ≤ (a2 / 3)) → ((mem 222 (Int32.toNatClampNeg (a2 / 3))) = (a2 / 3)) → (¬ (mem 194 (Int32.toNatClampNeg (mem 205 (Int32.toNatClampNeg ((4 * a1) + (a2 / 3)))))) ≤ (a2 - a2 / 3 * 3)) → QW d mMo_numberOf 0 (qen 5 [.ref 193, .int 0, .int a2]) [] (hpo X mem sw o e) (qcl d mMo_classesGo 78 81 (lMo_classesGo_81 a1 a2 ((32 + (3 * (mem 223 (Int32.toNatClampNeg (a2 / 3))))) + (a2 - a2 / 3 * 3)) w4 w5 w6) [] P)) : QW (d + 1) mMo_classesGo 2 (lMo_classesGo_2 a1 a2 w3 w4 w5 w6) [] (hpo X mem sw o e) P := by
  show QW (d + 1) mMo_classesGo 2 [.val (.ref 193), .val (.int a1), .val (.int a2), w3, w4, w5, w6] [] (hpo X mem sw o e) P
  refine QW.iload_n dMo_classesGo_2 rfl rfl ?_
  refine QW.bipush (v := 12) dMo_classesGo_3 (by decide) ?_
  refine QW.icmp_ge (tgt := 264) dMo_classesGo_5 (by decide) (fun z0 => ?_) (fun z0 => ?_)
  · refine QW.iconst (v := 1) dMo_classesGo_264 (by decide) ?_
    exact QW.iret dMo_classesGo_265 rfl rfl (k1 z0)
  · refine QW.iload_n dMo_classesGo_8 rfl rfl ?_
    refine QW.iconst (v := 3) dMo_classesGo_9 (by decide) ?_
    refine QW.idiv dMo_classesGo_10 (by decide) ?_
    refine QW.aload_n dMo_classesGo_11 rfl rfl ?_
    refine MW.getr (r' := 204) hX dMo_classesGo_12 fMo_46 rfl rfl (by cases sw <;> rfl) ?_
    refine QW.iload_n dMo_classesGo_15 rfl rfl ?_
    refine MW.iald hX dMo_classesGo_16 rfl (h2 z0).1 (rep_get (h2 z0).2) ?_
    refine QW.icmp_ge (tgt := 258) dMo_classesGo_17 (by decide) (fun z1 => ?_) (fun z1 => ?_)
    · refine MW.iinc (c := 1) (ls' := [.val (.ref 193), .val (.int a1), .val (.int (a2 + 1)), w3, w4, w5, w6]) dMo_classesGo_258 (by decide) rfl rfl ?_
      refine QW.goto (tgt := 2) dMo_classesGo_261 (by decide) ?_
      exact (k3 z0 z1)
    · refine QW.aload_n dMo_classesGo_20 rfl rfl ?_
      refine MW.getr (r' := 222) hX dMo_classesGo_21 fMo_100 rfl rfl (by cases sw <;> rfl) ?_
      refine QW.iload_n dMo_classesGo_24 rfl rfl ?_
      refine QW.iconst (v := 3) dMo_classesGo_25 (by decide) ?_
      refine QW.idiv dMo_classesGo_26 (by decide) ?_
      refine MW.iald hX dMo_classesGo_27 rfl (h4 z0 z1).1 (rep_get (h4 z0 z1).2) ?_
      refine QW.iload_n dMo_classesGo_28 rfl rfl ?_
      refine QW.iconst (v := 3) dMo_classesGo_29 (by decide) ?_
      refine QW.idiv dMo_classesGo_30 (by decide) ?_
      refine QW.icmp_ne (tgt := 258) dMo_classesGo_31 (by decide) (fun z2 => ?_) (fun z2 => ?_)
      · refine MW.iinc (c := 1) (ls' := [.val (.ref 193), .val (.int a1), .val (.int (a2 + 1)), w3, w4, w5, w6]) dMo_classesGo_258 (by decide) rfl rfl ?_
        refine QW.goto (tgt := 2) dMo_classesGo_261 (by decide) ?_
        exact (k5 z0 z1 z2)
      · refine QW.iload_n dMo_classesGo_34 rfl rfl ?_
        refine QW.iconst (v := 3) dMo_classesGo_35 (by decide) ?_
        refine QW.irem dMo_classesGo_36 (by decide) ?_
        refine QW.aload_n dMo_classesGo_37 rfl rfl ?_
        refine MW.getr (r' := 194) hX dMo_classesGo_38 fMo_7 rfl rfl (by cases sw <;> rfl) ?_
        refine QW.aload_n dMo_classesGo_41 rfl rfl ?_
        refine MW.getr (r' := 205) hX dMo_classesGo_42 fMo_49 rfl rfl (by cases sw <;> rfl) ?_
        refine QW.iconst (v := 4) dMo_classesGo_45 (by decide) ?_
        refine QW.iload_n dMo_classesGo_46 rfl rfl ?_
        refine QW.imul dMo_classesGo_47 ?_
        refine QW.iload_n dMo_classesGo_48 rfl rfl ?_
        refine QW.iconst (v := 3) dMo_classesGo_49 (by decide) ?_
        refine QW.idiv dMo_classesGo_50 (by decide) ?_
        refine QW.iadd dMo_classesGo_51 ?_
        refine MW.iald hX dMo_classesGo_52 rfl (h6 z0 z1 z2).1 (rep_get (h6 z0 z1 z2).2) ?_
        refine MW.iald hX dMo_classesGo_53 rfl (h7 z0 z1 z2).1 (rep_get (h7 z0 z1 z2).2) ?_
        refine QW.icmp_ge (tgt := 258) dMo_classesGo_54 (by decide) (fun z3 => ?_) (fun z3 => ?_)
        · refine MW.iinc (c := 1) (ls' := [.val (.ref 193), .val (.int a1), .val (.int (a2 + 1)), w3, w4, w5, w6]) dMo_classesGo_258 (by decide) rfl rfl ?_
          refine QW.goto (tgt := 2) dMo_classesGo_261 (by decide) ?_
          exact (k8 z0 z1 z2 z3)
        · refine QW.bipush (v := 32) dMo_classesGo_57 (by decide) ?_
          refine QW.iconst (v := 3) dMo_classesGo_59 (by decide) ?_
          refine QW.aload_n dMo_classesGo_60 rfl rfl ?_
          refine MW.getr (r' := 223) hX dMo_classesGo_61 fMo_103 rfl rfl (by cases sw <;> rfl) ?_
          refine QW.iload_n dMo_classesGo_64 rfl rfl ?_
          refine QW.iconst (v := 3) dMo_classesGo_65 (by decide) ?_
          refine QW.idiv dMo_classesGo_66 (by decide) ?_
          refine MW.iald hX dMo_classesGo_67 rfl (h9 z0 z1 z2 z3).1 (rep_get (h9 z0 z1 z2 z3).2) ?_
          refine QW.imul dMo_classesGo_68 ?_
          refine QW.iadd dMo_classesGo_69 ?_
          refine QW.iload_n dMo_classesGo_70 rfl rfl ?_
          refine QW.iconst (v := 3) dMo_classesGo_71 (by decide) ?_
          refine QW.irem dMo_classesGo_72 (by decide) ?_
          refine QW.iadd dMo_classesGo_73 ?_
          refine QW.istore_n (ls' := [.val (.ref 193), .val (.int a1), .val (.int a2), .val (.int ((32 + (3 * (mem 223 (Int32.toNatClampNeg (a2 / 3))))) + (a2 - a2 / 3 * 3))), w4, w5, w6]) dMo_classesGo_74 rfl (by rcases hw3 with z | ⟨_, z⟩ | ⟨_, z⟩ <;> subst z <;> rfl) ?_
          refine QW.aload_n dMo_classesGo_75 rfl rfl ?_
          refine QW.iconst (v := 0) dMo_classesGo_76 (by decide) ?_
          refine QW.iload_n dMo_classesGo_77 rfl rfl ?_
          exact MW.calV (as := [.int 0, .int a2]) (rest := []) hX dMo_classesGo_78 eMo_numberOf lMo_265 iMo_numberOf vMo_numberOf rfl rfl rfl rfl rfl rfl (Nat.le_of_ble_eq_true rfl) rfl (k10 z0 z1 z2 z3)
theorem bMo_classesGo_81 {a1 : Int32} {a2 : Int32} {a3 : Int32} {w4 : Slot} {w5 : Slot} {w6 : Slot} {s0 : Int32} (hX : X.length = 13) (hw4 : qfr w4) (hw5 : qfr w5) (hw6 : qfr w6) (k1 : QW d mMo_numberOf 0 (qen 5 [.ref 193, .int 1, .int a3]) [] (hpo X mem sw o e) (qcl d mMo_classesGo 86 89 (lMo_classesGo_89 a1 a2 a3 s0 w5 w6) [] P)) : QW (d + 1) mMo_classesGo 81 (lMo_classesGo_81 a1 a2 a3 w4 w5 w6) [.int s0] (hpo X mem sw o e) P := by
  show QW (d + 1) mMo_classesGo 81 [.val (.ref 193), .val (.int a1), .val (.int a2), .val (.int a3), w4, w5, w6] [.int s0] (hpo X mem sw o e) P
  refine QW.istore (ls' := [.val (.ref 193), .val (.int a1), .val (.int a2), .val (.int a3), .val (.int s0), w5, w6]) dMo_classesGo_81 (by rcases hw4 with z | ⟨_, z⟩ | ⟨_, z⟩ <;> subst z <;> rfl) ?_
  refine QW.aload_n dMo_classesGo_83 rfl rfl ?_
  refine QW.iconst (v := 1) dMo_classesGo_84 (by decide) ?_
  refine QW.iload_n dMo_classesGo_85 rfl rfl ?_
  exact MW.calV (as := [.int 1, .int a3]) (rest := []) hX dMo_classesGo_86 eMo_numberOf lMo_265 iMo_numberOf vMo_numberOf rfl rfl rfl rfl rfl rfl (Nat.le_of_ble_eq_true rfl) rfl k1
theorem bMo_classesGo_89 {a1 : Int32} {a2 : Int32} {a3 : Int32} {a4 : Int32} {w5 : Slot} {w6 : Slot} {s0 : Int32} (hX : X.length = 13) (hw5 : qfr w5) (hw6 : qfr w6) (k1 : (0 ≤ a4) → QW d mMo_classesGo 101 (lMo_classesGo_101 a1 a2 a3 a4 s0 w6) [.int 0] (hpo X mem sw o e) P) (k2 : (¬ 0 ≤ a4) → QW d mMo_classesGo 101 (lMo_classesGo_101 a1 a2 a3 a4 s0 w6) [.int 1] (hpo X mem sw o e) P) : QW d mMo_classesGo 89 (lMo_classesGo_89 a1 a2 a3 a4 w5 w6) [.int s0] (hpo X mem sw o e) P := by
  show QW d mMo_classesGo 89 [.val (.ref 193), .val (.int a1), .val (.int a2), .val (.int a3), .val (.int a4), w5, w6] [.int s0] (hpo X mem sw o e) P
  refine QW.istore (ls' := [.val (.ref 193), .val (.int a1), .val (.int a2), .val (.int a3), .val (.int a4), .val (.int s0), w6]) dMo_classesGo_89 (by rcases hw5 with z | ⟨_, z⟩ | ⟨_, z⟩ <;> subst z <;> rfl) ?_
  refine QW.iload dMo_classesGo_91 rfl ?_
  refine QW.if_ge (tgt := 100) dMo_classesGo_93 (by decide) (fun z0 => ?_) (fun z0 => ?_)
  · refine QW.iconst (v := 0) dMo_classesGo_100 (by decide) ?_
    exact (k1 z0)
  · refine QW.iconst (v := 1) dMo_classesGo_96 (by decide) ?_
    refine QW.goto (tgt := 101) dMo_classesGo_97 (by decide) ?_
    exact (k2 z0)
theorem bMo_classesGo_101 {a1 : Int32} {a2 : Int32} {a3 : Int32} {a4 : Int32} {a5 : Int32} {w6 : Slot} {s0 : Int32} (hX : X.length = 13) (hw6 : qfr w6) (k1 : (0 ≤ a5) → QW d mMo_classesGo 111 (lMo_classesGo_111 a1 a2 a3 a4 a5 w6) [.int 0, .int s0] (hpo X mem sw o e) P) (k2 : (¬ 0 ≤ a5) → QW d mMo_classesGo 111 (lMo_classesGo_111 a1 a2 a3 a4 a5 w6) [.int 1, .int s0] (hpo X mem sw o e) P) : QW d mMo_classesGo 101 (lMo_classesGo_101 a1 a2 a3 a4 a5 w6) [.int s0] (hpo X mem sw o e) P := by
  show QW d mMo_classesGo 101 [.val (.ref 193), .val (.int a1), .val (.int a2), .val (.int a3), .val (.int a4), .val (.int a5), w6] [.int s0] (hpo X mem sw o e) P
  refine QW.iload dMo_classesGo_101 rfl ?_
  refine QW.if_ge (tgt := 110) dMo_classesGo_103 (by decide) (fun z0 => ?_) (fun z0 => ?_)
  · refine QW.iconst (v := 0) dMo_classesGo_110 (by decide) ?_
    exact (k1 z0)
  · refine QW.iconst (v := 1) dMo_classesGo_106 (by decide) ?_
    refine QW.goto (tgt := 111) dMo_classesGo_107 (by decide) ?_
    exact (k2 z0)
theorem bMo_classesGo_111 {a1 : Int32} {a2 : Int32} {a3 : Int32} {a4 : Int32} {a5 : Int32} {w6 : Slot} {s1 : Int32} {s0 : Int32} (hX : X.length = 13) (hw6 : qfr w6) (k1 : (¬ s0 = s1) → P (.inl (some (.int 0)), (hpo X mem sw o e))) (k2 : (s0 = s1) → (a4 < 0) → QW d mMo_classesGo 138 (lMo_classesGo_138 a1 a2 a3 a4 a5 w6) [] (hpo X mem sw o e) P) (h3 : (s0 = s1) → (¬ a4 < 0) → inx a4 64) (h4 : (s0 = s1) → (¬ a4 < 0) → inx a5 64) (k5 : (s0 = s1) → (¬ a4 < 0) → ((mem 220 (Int32.toNatClampNeg a4)) = (mem 220 (Int32.toNatClampNeg a5))) → QW d mMo_classesGo 138 (lMo_classesGo_138 a1 a2 a3 a4 a5 w6) [] (hpo X mem sw o e) P) (k6 : (s0 = s1) → (¬ a4 < 0) → (¬ (mem 220 (Int32.toNatClampNeg a4)) = (mem 220 (Int32.toNatClampNeg a5))) → P (.inl (some (.int 0)), (hpo X mem sw o e))) : QW d mMo_classesGo 111 (lMo_classesGo_111 a1 a2 a3 a4 a5 w6) [.int s1, .int s0] (hpo X mem sw o e) P := by
  show QW d mMo_classesGo 111 [.val (.ref 193), .val (.int a1), .val (.int a2), .val (.int a3), .val (.int a4), .val (.int a5), w6] [.int s1, .int s0] (hpo X mem sw o e) P
  refine QW.icmp_ne (tgt := 136) dMo_classesGo_111 (by decide) (fun z0 => ?_) (fun z0 => ?_)
  · refine QW.iconst (v := 0) dMo_classesGo_136 (by decide) ?_
    exact QW.iret dMo_classesGo_137 rfl rfl (k1 z0)
  · refine QW.iload dMo_classesGo_114 rfl ?_
    refine QW.if_lt (tgt := 138) dMo_classesGo_116 (by decide) (fun z1 => ?_) (fun z1 => ?_)
    · exact (k2 z0 z1)
    · refine QW.aload_n dMo_classesGo_119 rfl rfl ?_
      refine MW.getr (r' := 220) hX dMo_classesGo_120 fMo_94 rfl rfl (by cases sw <;> rfl) ?_
      refine QW.iload dMo_classesGo_123 rfl ?_
      refine MW.iald hX dMo_classesGo_125 rfl (h3 z0 z1).1 (rep_get (h3 z0 z1).2) ?_
      refine QW.aload_n dMo_classesGo_126 rfl rfl ?_
      refine MW.getr (r' := 220) hX dMo_classesGo_127 fMo_94 rfl rfl (by cases sw <;> rfl) ?_
      refine QW.iload dMo_classesGo_130 rfl ?_
      refine MW.iald hX dMo_classesGo_132 rfl (h4 z0 z1).1 (rep_get (h4 z0 z1).2) ?_
      refine QW.icmp_eq (tgt := 138) dMo_classesGo_133 (by decide) (fun z2 => ?_) (fun z2 => ?_)
      · exact (k5 z0 z1 z2)
      · refine QW.iconst (v := 0) dMo_classesGo_136 (by decide) ?_
        exact QW.iret dMo_classesGo_137 rfl rfl (k6 z0 z1 z2)
theorem bMo_classesGo_138 {a1 : Int32} {a2 : Int32} {a3 : Int32} {a4 : Int32} {a5 : Int32} {w6 : Slot} (hX : X.length = 13) (hw6 : qfr w6) (k1 : QW d mMo_classesGo 141 (lMo_classesGo_141 a1 a2 a3 a4 a5 0) [] (hpo X mem sw o e) P) : QW d mMo_classesGo 138 (lMo_classesGo_138 a1 a2 a3 a4 a5 w6) [] (hpo X mem sw o e) P := by
  show QW d mMo_classesGo 138 [.val (.ref 193), .val (.int a1), .val (.int a2), .val (.int a3), .val (.int a4), .val (.int a5), w6] [] (hpo X mem sw o e) P
  refine QW.iconst (v := 0) dMo_classesGo_138 (by decide) ?_
  refine QW.istore (ls' := [.val (.ref 193), .val (.int a1), .val (.int a2), .val (.int a3), .val (.int a4), .val (.int a5), .val (.int 0)]) dMo_classesGo_139 (by rcases hw6 with z | ⟨_, z⟩ | ⟨_, z⟩ <;> subst z <;> rfl) ?_
  exact k1
theorem bMo_classesGo_141 {a1 : Int32} {a2 : Int32} {a3 : Int32} {a4 : Int32} {a5 : Int32} {a6 : Int32} (hX : X.length = 13) (k1 : (a2 ≤ a6) → QW d mMo_classesGo 2 (lMo_classesGo_2 a1 (a2 + 1) (.val (.int a3)) (.val (.int a4)) (.val (.int a5)) (.val (.int a6))) [] (hpo X mem sw o e) P) (h2 : (¬ a2 ≤ a6) → inx (a6 / 3) 8) (k3 : (¬ a2 ≤ a6) → (¬ (mem 222 (Int32.toNatClampNeg (a6 / 3))) = (a6 / 3)) → QW d mMo_classesGo 141 (lMo_classesGo_141 a1 a2 a3 a4 a5 (a6 + 1)) [] (hpo X mem sw o e) P) (h4 : (¬ a2 ≤ a6) → ((mem 222 (Int32.toNatClampNeg (a6 / 3))) = (a6 / 3)) → inx ((4 * a1) + (a6 / 3)) 60) (h5 : (¬ a2 ≤ a6) → ((mem 222 (Int32.toNatClampNeg (a6 / 3))) = (a6 / 3)) → inx (mem 205 (Int32.toNatClampNeg ((4 * a1) + (a6 / 3)))) 4) (k6 : (¬ a2 ≤ a6) → ((mem 222 (Int32.toNatClampNeg (a6 / 3))) = (a6 / 3)) → ((mem 194 (Int32.toNatClampNeg (mem 205 (Int32.toNatClampNeg ((4 * a1) + (a6 / 3)))))) ≤ (a6 - a6 / 3 * 3)) → QW d mMo_classesGo 141 (lMo_classesGo_141 a1 a2 a3 a4 a5 (a6 + 1)) [] (hpo X mem sw o e) P) (h7 : (¬ a2 ≤ a6) → ((mem 222 (Int32.toNatClampNeg (a6 / 3))) = (a6 / 3)) → (¬ (mem 194 (Int32.toNatClampNeg (mem 205 (Int32.toNatClampNeg ((4 * a1) + (a6 / 3)))))) ≤ (a6 - a6 / 3 * 3)) → inx a6 64) (h8 : (¬ a2 ≤ a6) → ((mem 222 (Int32.toNatClampNeg (a6 / 3))) = (a6 / 3)) → (¬ (mem 194 (Int32.toNatClampNeg (mem 205 (Int32.toNatClampNeg ((4 * a1) + (a6 / 3)))))) ≤ (a6 - a6 / 3 * 3)) → inx a2 64) (k9 : (¬ a2 ≤ a6) → ((mem 222 (Int32.toNatClampNeg (a6 / 3))) = (a6 / 3)) → (¬ (mem 194 (Int32.toNatClampNeg (mem 205 (Int32.toNatClampNeg ((4 * a1) + (a6 / 3)))))) ≤ (a6 - a6 / 3 * 3)) → (¬ (mem 219 (Int32.toNatClampNeg a6)) = (mem 219 (Int32.toNatClampNeg a2))) → QW d mMo_classesGo 209 (lMo_classesGo_209 a1 a2 a3 a4 a5 a6) [.int 0] (hpo X mem sw o e) P) (k10 : (¬ a2 ≤ a6) → ((mem 222 (Int32.toNatClampNeg (a6 / 3))) = (a6 / 3)) → (¬ (mem 194 (Int32.toNatClampNeg (mem 205 (Int32.toNatClampNeg ((4 * a1) + (a6 / 3)))))) ≤ (a6 - a6 / 3 * 3)) → ((mem 219 (Int32.toNatClampNeg a6)) = (mem 219 (Int32.toNatClampNeg a2))) → QW d mMo_classesGo 209 (lMo_classesGo_209 a1 a2 a3 a4 a5 a6) [.int 1] (hpo X mem sw o e) P) : QW d mMo_classesGo 141 (lMo_classesGo_141 a1 a2 a3 a4 a5 a6) [] (hpo X mem sw o e) P := by
  show QW d mMo_classesGo 141 [.val (.ref 193), .val (.int a1), .val (.int a2), .val (.int a3), .val (.int a4), .val (.int a5), .val (.int a6)] [] (hpo X mem sw o e) P
  refine QW.iload dMo_classesGo_141 rfl ?_
  refine QW.iload_n dMo_classesGo_143 rfl rfl ?_
  refine QW.icmp_ge (tgt := 258) dMo_classesGo_144 (by decide) (fun z0 => ?_) (fun z0 => ?_)
  · refine MW.iinc (c := 1) (ls' := [.val (.ref 193), .val (.int a1), .val (.int (a2 + 1)), .val (.int a3), .val (.int a4), .val (.int a5), .val (.int a6)]) dMo_classesGo_258 (by decide) rfl rfl ?_
    refine QW.goto (tgt := 2) dMo_classesGo_261 (by decide) ?_
    exact (k1 z0)
  · refine QW.aload_n dMo_classesGo_147 rfl rfl ?_
    refine MW.getr (r' := 222) hX dMo_classesGo_148 fMo_100 rfl rfl (by cases sw <;> rfl) ?_
    refine QW.iload dMo_classesGo_151 rfl ?_
    refine QW.iconst (v := 3) dMo_classesGo_153 (by decide) ?_
    refine QW.idiv dMo_classesGo_154 (by decide) ?_
    refine MW.iald hX dMo_classesGo_155 rfl (h2 z0).1 (rep_get (h2 z0).2) ?_
    refine QW.iload dMo_classesGo_156 rfl ?_
    refine QW.iconst (v := 3) dMo_classesGo_158 (by decide) ?_
    refine QW.idiv dMo_classesGo_159 (by decide) ?_
    refine QW.icmp_ne (tgt := 252) dMo_classesGo_160 (by decide) (fun z1 => ?_) (fun z1 => ?_)
    · refine MW.iinc (c := 1) (ls' := [.val (.ref 193), .val (.int a1), .val (.int a2), .val (.int a3), .val (.int a4), .val (.int a5), .val (.int (a6 + 1))]) dMo_classesGo_252 (by decide) rfl rfl ?_
      refine QW.goto (tgt := 141) dMo_classesGo_255 (by decide) ?_
      exact (k3 z0 z1)
    · refine QW.iload dMo_classesGo_163 rfl ?_
      refine QW.iconst (v := 3) dMo_classesGo_165 (by decide) ?_
      refine QW.irem dMo_classesGo_166 (by decide) ?_
      refine QW.aload_n dMo_classesGo_167 rfl rfl ?_
      refine MW.getr (r' := 194) hX dMo_classesGo_168 fMo_7 rfl rfl (by cases sw <;> rfl) ?_
      refine QW.aload_n dMo_classesGo_171 rfl rfl ?_
      refine MW.getr (r' := 205) hX dMo_classesGo_172 fMo_49 rfl rfl (by cases sw <;> rfl) ?_
      refine QW.iconst (v := 4) dMo_classesGo_175 (by decide) ?_
      refine QW.iload_n dMo_classesGo_176 rfl rfl ?_
      refine QW.imul dMo_classesGo_177 ?_
      refine QW.iload dMo_classesGo_178 rfl ?_
      refine QW.iconst (v := 3) dMo_classesGo_180 (by decide) ?_
      refine QW.idiv dMo_classesGo_181 (by decide) ?_
      refine QW.iadd dMo_classesGo_182 ?_
      refine MW.iald hX dMo_classesGo_183 rfl (h4 z0 z1).1 (rep_get (h4 z0 z1).2) ?_
      refine MW.iald hX dMo_classesGo_184 rfl (h5 z0 z1).1 (rep_get (h5 z0 z1).2) ?_
      refine QW.icmp_ge (tgt := 252) dMo_classesGo_185 (by decide) (fun z2 => ?_) (fun z2 => ?_)
      · refine MW.iinc (c := 1) (ls' := [.val (.ref 193), .val (.int a1), .val (.int a2), .val (.int a3), .val (.int a4), .val (.int a5), .val (.int (a6 + 1))]) dMo_classesGo_252 (by decide) rfl rfl ?_
        refine QW.goto (tgt := 141) dMo_classesGo_255 (by decide) ?_
        exact (k6 z0 z1 z2)
      · refine QW.aload_n dMo_classesGo_188 rfl rfl ?_
        refine MW.getr (r' := 219) hX dMo_classesGo_189 fMo_91 rfl rfl (by cases sw <;> rfl) ?_
        refine QW.iload dMo_classesGo_192 rfl ?_
        refine MW.iald hX dMo_classesGo_194 rfl (h7 z0 z1 z2).1 (rep_get (h7 z0 z1 z2).2) ?_
        refine QW.aload_n dMo_classesGo_195 rfl rfl ?_
        refine MW.getr (r' := 219) hX dMo_classesGo_196 fMo_91 rfl rfl (by cases sw <;> rfl) ?_
        refine QW.iload_n dMo_classesGo_199 rfl rfl ?_
        refine MW.iald hX dMo_classesGo_200 rfl (h8 z0 z1 z2).1 (rep_get (h8 z0 z1 z2).2) ?_
        refine QW.icmp_ne (tgt := 208) dMo_classesGo_201 (by decide) (fun z3 => ?_) (fun z3 => ?_)
        · refine QW.iconst (v := 0) dMo_classesGo_208 (by decide) ?_
          exact (k9 z0 z1 z2 z3)
        · refine QW.iconst (v := 1) dMo_classesGo_204 (by decide) ?_
          refine QW.goto (tgt := 209) dMo_classesGo_205 (by decide) ?_
          exact (k10 z0 z1 z2 z3)
theorem bMo_classesGo_209 {a1 : Int32} {a2 : Int32} {a3 : Int32} {a4 : Int32} {a5 : Int32} {a6 : Int32} {s0 : Int32} (hX : X.length = 13) (h1 : inx (a6 / 3) 4) (h2 : inx ((32 + (3 * (mem 223 (Int32.toNatClampNeg (a6 / 3))))) + (a6 - a6 / 3 * 3)) 64) (h3 : inx a3 64) (k4 : (¬ (mem 219 (Int32.toNatClampNeg ((32 + (3 * (mem 223 (Int32.toNatClampNeg (a6 / 3))))) + (a6 - a6 / 3 * 3)))) = (mem 219 (Int32.toNatClampNeg a3))) → QW d mMo_classesGo 247 (lMo_classesGo_247 a1 a2 a3 a4 a5 a6) [.int 0, .int s0] (hpo X mem sw o e) P) (k5 : ((mem 219 (Int32.toNatClampNeg ((32 + (3 * (mem 223 (Int32.toNatClampNeg (a6 / 3))))) + (a6 - a6 / 3 * 3)))) = (mem 219 (Int32.toNatClampNeg a3))) → QW d mMo_classesGo 247 (lMo_classesGo_247 a1 a2 a3 a4 a5 a6) [.int 1, .int s0] (hpo X mem sw o e) P) : QW d mMo_classesGo 209 (lMo_classesGo_209 a1 a2 a3 a4 a5 a6) [.int s0] (hpo X mem sw o e) P := by
  show QW d mMo_classesGo 209 [.val (.ref 193), .val (.int a1), .val (.int a2), .val (.int a3), .val (.int a4), .val (.int a5), .val (.int a6)] [.int s0] (hpo X mem sw o e) P
  refine QW.aload_n dMo_classesGo_209 rfl rfl ?_
  refine MW.getr (r' := 219) hX dMo_classesGo_210 fMo_91 rfl rfl (by cases sw <;> rfl) ?_
  refine QW.bipush (v := 32) dMo_classesGo_213 (by decide) ?_
  refine QW.iconst (v := 3) dMo_classesGo_215 (by decide) ?_
  refine QW.aload_n dMo_classesGo_216 rfl rfl ?_
  refine MW.getr (r' := 223) hX dMo_classesGo_217 fMo_103 rfl rfl (by cases sw <;> rfl) ?_
  refine QW.iload dMo_classesGo_220 rfl ?_
  refine QW.iconst (v := 3) dMo_classesGo_222 (by decide) ?_
  refine QW.idiv dMo_classesGo_223 (by decide) ?_
  refine MW.iald hX dMo_classesGo_224 rfl h1.1 (rep_get h1.2) ?_
  refine QW.imul dMo_classesGo_225 ?_
  refine QW.iadd dMo_classesGo_226 ?_
  refine QW.iload dMo_classesGo_227 rfl ?_
  refine QW.iconst (v := 3) dMo_classesGo_229 (by decide) ?_
  refine QW.irem dMo_classesGo_230 (by decide) ?_
  refine QW.iadd dMo_classesGo_231 ?_
  refine MW.iald hX dMo_classesGo_232 rfl h2.1 (rep_get h2.2) ?_
  refine QW.aload_n dMo_classesGo_233 rfl rfl ?_
  refine MW.getr (r' := 219) hX dMo_classesGo_234 fMo_91 rfl rfl (by cases sw <;> rfl) ?_
  refine QW.iload_n dMo_classesGo_237 rfl rfl ?_
  refine MW.iald hX dMo_classesGo_238 rfl h3.1 (rep_get h3.2) ?_
  refine QW.icmp_ne (tgt := 246) dMo_classesGo_239 (by decide) (fun z0 => ?_) (fun z0 => ?_)
  · refine QW.iconst (v := 0) dMo_classesGo_246 (by decide) ?_
    exact (k4 z0)
  · refine QW.iconst (v := 1) dMo_classesGo_242 (by decide) ?_
    refine QW.goto (tgt := 247) dMo_classesGo_243 (by decide) ?_
    exact (k5 z0)
theorem bMo_classesGo_247 {a1 : Int32} {a2 : Int32} {a3 : Int32} {a4 : Int32} {a5 : Int32} {a6 : Int32} {s1 : Int32} {s0 : Int32} (hX : X.length = 13) (k1 : (s0 = s1) → QW d mMo_classesGo 141 (lMo_classesGo_141 a1 a2 a3 a4 a5 (a6 + 1)) [] (hpo X mem sw o e) P) (k2 : (¬ s0 = s1) → P (.inl (some (.int 0)), (hpo X mem sw o e))) : QW d mMo_classesGo 247 (lMo_classesGo_247 a1 a2 a3 a4 a5 a6) [.int s1, .int s0] (hpo X mem sw o e) P := by
  show QW d mMo_classesGo 247 [.val (.ref 193), .val (.int a1), .val (.int a2), .val (.int a3), .val (.int a4), .val (.int a5), .val (.int a6)] [.int s1, .int s0] (hpo X mem sw o e) P
  refine QW.icmp_eq (tgt := 252) dMo_classesGo_247 (by decide) (fun z0 => ?_) (fun z0 => ?_)
  · refine MW.iinc (c := 1) (ls' := [.val (.ref 193), .val (.int a1), .val (.int a2), .val (.int a3), .val (.int a4), .val (.int a5), .val (.int (a6 + 1))]) dMo_classesGo_252 (by decide) rfl rfl ?_
    refine QW.goto (tgt := 141) dMo_classesGo_255 (by decide) ?_
    exact (k1 z0)
  · refine QW.iconst (v := 0) dMo_classesGo_250 (by decide) ?_
    exact QW.iret dMo_classesGo_251 rfl rfl (k2 z0)
theorem dMo_isOpen_0 : decode mMo_isOpen.2.1 0 = .ok (.aload_n 0, 1) := by decide +kernel
theorem dMo_isOpen_1 : decode mMo_isOpen.2.1 1 = .ok (.getfield 64, 3) := by decide +kernel
theorem dMo_isOpen_4 : decode mMo_isOpen.2.1 4 = .ok (.iload_n 2, 1) := by decide +kernel
theorem dMo_isOpen_5 : decode mMo_isOpen.2.1 5 = .ok (.baload, 1) := by decide +kernel
theorem dMo_isOpen_6 : decode mMo_isOpen.2.1 6 = .ok (.ifCond .eq 45, 3) := by decide +kernel
theorem dMo_isOpen_9 : decode mMo_isOpen.2.1 9 = .ok (.aload_n 0, 1) := by decide +kernel
theorem dMo_isOpen_10 : decode mMo_isOpen.2.1 10 = .ok (.iload_n 1, 1) := by decide +kernel
theorem dMo_isOpen_11 : decode mMo_isOpen.2.1 11 = .ok (.aload_n 0, 1) := by decide +kernel
theorem dMo_isOpen_12 : decode mMo_isOpen.2.1 12 = .ok (.iload_n 1, 1) := by decide +kernel
theorem dMo_isOpen_13 : decode mMo_isOpen.2.1 13 = .ok (.aload_n 0, 1) := by decide +kernel
theorem dMo_isOpen_14 : decode mMo_isOpen.2.1 14 = .ok (.getfield 58, 3) := by decide +kernel
theorem dMo_isOpen_17 : decode mMo_isOpen.2.1 17 = .ok (.iload_n 2, 1) := by decide +kernel
theorem dMo_isOpen_18 : decode mMo_isOpen.2.1 18 = .ok (.iaload, 1) := by decide +kernel
theorem dMo_isOpen_19 : decode mMo_isOpen.2.1 19 = .ok (.invokevirtual 250, 3) := by decide +kernel
theorem dMo_isOpen_22 : decode mMo_isOpen.2.1 22 = .ok (.invokevirtual 265, 3) := by decide +kernel
theorem dMo_isOpen_25 : decode mMo_isOpen.2.1 25 = .ok (.ifCond .lt 22, 3) := by decide +kernel
theorem dMo_isOpen_28 : decode mMo_isOpen.2.1 28 = .ok (.aload_n 0, 1) := by decide +kernel
theorem dMo_isOpen_29 : decode mMo_isOpen.2.1 29 = .ok (.iload_n 1, 1) := by decide +kernel
theorem dMo_isOpen_30 : decode mMo_isOpen.2.1 30 = .ok (.aload_n 0, 1) := by decide +kernel
theorem dMo_isOpen_31 : decode mMo_isOpen.2.1 31 = .ok (.iload_n 1, 1) := by decide +kernel
theorem dMo_isOpen_32 : decode mMo_isOpen.2.1 32 = .ok (.aload_n 0, 1) := by decide +kernel
theorem dMo_isOpen_33 : decode mMo_isOpen.2.1 33 = .ok (.getfield 61, 3) := by decide +kernel
theorem dMo_isOpen_36 : decode mMo_isOpen.2.1 36 = .ok (.iload_n 2, 1) := by decide +kernel
theorem dMo_isOpen_37 : decode mMo_isOpen.2.1 37 = .ok (.iaload, 1) := by decide +kernel
theorem dMo_isOpen_38 : decode mMo_isOpen.2.1 38 = .ok (.invokevirtual 250, 3) := by decide +kernel
theorem dMo_isOpen_41 : decode mMo_isOpen.2.1 41 = .ok (.invokevirtual 265, 3) := by decide +kernel
theorem dMo_isOpen_44 : decode mMo_isOpen.2.1 44 = .ok (.ifCond .ge 7, 3) := by decide +kernel
theorem dMo_isOpen_47 : decode mMo_isOpen.2.1 47 = .ok (.iconst 1, 1) := by decide +kernel
theorem dMo_isOpen_48 : decode mMo_isOpen.2.1 48 = .ok (.goto 4, 3) := by decide +kernel
theorem dMo_isOpen_51 : decode mMo_isOpen.2.1 51 = .ok (.iconst 0, 1) := by decide +kernel
theorem dMo_isOpen_52 : decode mMo_isOpen.2.1 52 = .ok (.ireturn, 1) := by decide +kernel
def lMo_isOpen_22 (a1 : Int32) (a2 : Int32) : List Slot := [.val (.ref 193), .val (.int a1), .val (.int a2)]
def lMo_isOpen_25 (a1 : Int32) (a2 : Int32) : List Slot := [.val (.ref 193), .val (.int a1), .val (.int a2)]
def lMo_isOpen_41 (a1 : Int32) (a2 : Int32) : List Slot := [.val (.ref 193), .val (.int a1), .val (.int a2)]
def lMo_isOpen_44 (a1 : Int32) (a2 : Int32) : List Slot := [.val (.ref 193), .val (.int a1), .val (.int a2)]
def lMo_isOpen_47 (a1 : Int32) (a2 : Int32) : List Slot := [.val (.ref 193), .val (.int a1), .val (.int a2)]
theorem bMo_isOpen_0 {a1 : Int32} {a2 : Int32} (hX : X.length = 13) (h1 : inx a2 90) (k2 : ((mem 210 (Int32.toNatClampNeg a2)) = 0) → P (.inl (some (.int 0)), (hpo X mem sw o e))) (h3 : (¬ (mem 210 (Int32.toNatClampNeg a2)) = 0) → inx a2 90) (k4 : (¬ (mem 210 (Int32.toNatClampNeg a2)) = 0) → QW d mMo_node 0 (qen 4 [.ref 193, .int a1, .int (mem 208 (Int32.toNatClampNeg a2))]) [] (hpo X mem sw o e) (qcl d mMo_isOpen 19 22 (lMo_isOpen_22 a1 a2) [.int a1, .ref 193] P)) : QW (d + 1) mMo_isOpen 0 (qen 3 [.ref 193, .int a1, .int a2]) [] (hpo X mem sw o e) P := by
  show QW (d + 1) mMo_isOpen 0 [.val (.ref 193), .val (.int a1), .val (.int a2)] [] (hpo X mem sw o e) P
  refine QW.aload_n dMo_isOpen_0 rfl rfl ?_
  refine MW.getr (r' := 210) hX dMo_isOpen_1 fMo_64 rfl rfl (by cases sw <;> rfl) ?_
  refine QW.iload_n dMo_isOpen_4 rfl rfl ?_
  refine MW.zald hX dMo_isOpen_5 rfl h1.1 (rep_get h1.2) ?_
  refine QW.if_eq (tgt := 51) dMo_isOpen_6 (by decide) (fun z0 => ?_) (fun z0 => ?_)
  · refine QW.iconst (v := 0) dMo_isOpen_51 (by decide) ?_
    exact QW.iret dMo_isOpen_52 rfl rfl (k2 z0)
  · refine QW.aload_n dMo_isOpen_9 rfl rfl ?_
    refine QW.iload_n dMo_isOpen_10 rfl rfl ?_
    refine QW.aload_n dMo_isOpen_11 rfl rfl ?_
    refine QW.iload_n dMo_isOpen_12 rfl rfl ?_
    refine QW.aload_n dMo_isOpen_13 rfl rfl ?_
    refine MW.getr (r' := 208) hX dMo_isOpen_14 fMo_58 rfl rfl (by cases sw <;> rfl) ?_
    refine QW.iload_n dMo_isOpen_17 rfl rfl ?_
    refine MW.iald hX dMo_isOpen_18 rfl (h3 z0).1 (rep_get (h3 z0).2) ?_
    exact MW.calV (as := [.int a1, .int (mem 208 (Int32.toNatClampNeg a2))]) (rest := [.int a1, .ref 193]) hX dMo_isOpen_19 eMo_node lMo_250 iMo_node vMo_node rfl rfl rfl rfl rfl rfl (Nat.le_of_ble_eq_true rfl) rfl (k4 z0)
theorem bMo_isOpen_22 {a1 : Int32} {a2 : Int32} {s2 : Int32} {s1 : Int32} (hX : X.length = 13) (k1 : QW d mMo_numberOf 0 (qen 5 [.ref 193, .int s1, .int s2]) [] (hpo X mem sw o e) (qcl d mMo_isOpen 22 25 (lMo_isOpen_25 a1 a2) [] P)) : QW (d + 1) mMo_isOpen 22 (lMo_isOpen_22 a1 a2) [.int s2, .int s1, .ref 193] (hpo X mem sw o e) P := by
  show QW (d + 1) mMo_isOpen 22 [.val (.ref 193), .val (.int a1), .val (.int a2)] [.int s2, .int s1, .ref 193] (hpo X mem sw o e) P
  exact MW.calV (as := [.int s1, .int s2]) (rest := []) hX dMo_isOpen_22 eMo_numberOf lMo_265 iMo_numberOf vMo_numberOf rfl rfl rfl rfl rfl rfl (Nat.le_of_ble_eq_true rfl) rfl k1
theorem bMo_isOpen_25 {a1 : Int32} {a2 : Int32} {s0 : Int32} (hX : X.length = 13) (k1 : (s0 < 0) → QW (d + 1) mMo_isOpen 47 (lMo_isOpen_47 a1 a2) [] (hpo X mem sw o e) P) (h2 : (¬ s0 < 0) → inx a2 90) (k3 : (¬ s0 < 0) → QW d mMo_node 0 (qen 4 [.ref 193, .int a1, .int (mem 209 (Int32.toNatClampNeg a2))]) [] (hpo X mem sw o e) (qcl d mMo_isOpen 38 41 (lMo_isOpen_41 a1 a2) [.int a1, .ref 193] P)) : QW (d + 1) mMo_isOpen 25 (lMo_isOpen_25 a1 a2) [.int s0] (hpo X mem sw o e) P := by
  show QW (d + 1) mMo_isOpen 25 [.val (.ref 193), .val (.int a1), .val (.int a2)] [.int s0] (hpo X mem sw o e) P
  refine QW.if_lt (tgt := 47) dMo_isOpen_25 (by decide) (fun z0 => ?_) (fun z0 => ?_)
  · exact (k1 z0)
  · refine QW.aload_n dMo_isOpen_28 rfl rfl ?_
    refine QW.iload_n dMo_isOpen_29 rfl rfl ?_
    refine QW.aload_n dMo_isOpen_30 rfl rfl ?_
    refine QW.iload_n dMo_isOpen_31 rfl rfl ?_
    refine QW.aload_n dMo_isOpen_32 rfl rfl ?_
    refine MW.getr (r' := 209) hX dMo_isOpen_33 fMo_61 rfl rfl (by cases sw <;> rfl) ?_
    refine QW.iload_n dMo_isOpen_36 rfl rfl ?_
    refine MW.iald hX dMo_isOpen_37 rfl (h2 z0).1 (rep_get (h2 z0).2) ?_
    exact MW.calV (as := [.int a1, .int (mem 209 (Int32.toNatClampNeg a2))]) (rest := [.int a1, .ref 193]) hX dMo_isOpen_38 eMo_node lMo_250 iMo_node vMo_node rfl rfl rfl rfl rfl rfl (Nat.le_of_ble_eq_true rfl) rfl (k3 z0)
theorem bMo_isOpen_41 {a1 : Int32} {a2 : Int32} {s2 : Int32} {s1 : Int32} (hX : X.length = 13) (k1 : QW d mMo_numberOf 0 (qen 5 [.ref 193, .int s1, .int s2]) [] (hpo X mem sw o e) (qcl d mMo_isOpen 41 44 (lMo_isOpen_44 a1 a2) [] P)) : QW (d + 1) mMo_isOpen 41 (lMo_isOpen_41 a1 a2) [.int s2, .int s1, .ref 193] (hpo X mem sw o e) P := by
  show QW (d + 1) mMo_isOpen 41 [.val (.ref 193), .val (.int a1), .val (.int a2)] [.int s2, .int s1, .ref 193] (hpo X mem sw o e) P
  exact MW.calV (as := [.int s1, .int s2]) (rest := []) hX dMo_isOpen_41 eMo_numberOf lMo_265 iMo_numberOf vMo_numberOf rfl rfl rfl rfl rfl rfl (Nat.le_of_ble_eq_true rfl) rfl k1
theorem bMo_isOpen_44 {a1 : Int32} {a2 : Int32} {s0 : Int32} (hX : X.length = 13) (k1 : (0 ≤ s0) → P (.inl (some (.int 0)), (hpo X mem sw o e))) (k2 : (¬ 0 ≤ s0) → QW d mMo_isOpen 47 (lMo_isOpen_47 a1 a2) [] (hpo X mem sw o e) P) : QW d mMo_isOpen 44 (lMo_isOpen_44 a1 a2) [.int s0] (hpo X mem sw o e) P := by
  show QW d mMo_isOpen 44 [.val (.ref 193), .val (.int a1), .val (.int a2)] [.int s0] (hpo X mem sw o e) P
  refine QW.if_ge (tgt := 51) dMo_isOpen_44 (by decide) (fun z0 => ?_) (fun z0 => ?_)
  · refine QW.iconst (v := 0) dMo_isOpen_51 (by decide) ?_
    exact QW.iret dMo_isOpen_52 rfl rfl (k1 z0)
  · exact (k2 z0)
theorem bMo_isOpen_47 {a1 : Int32} {a2 : Int32} (hX : X.length = 13) (k1 : P (.inl (some (.int 1)), (hpo X mem sw o e))) : QW d mMo_isOpen 47 (lMo_isOpen_47 a1 a2) [] (hpo X mem sw o e) P := by
  show QW d mMo_isOpen 47 [.val (.ref 193), .val (.int a1), .val (.int a2)] [] (hpo X mem sw o e) P
  refine QW.iconst (v := 1) dMo_isOpen_47 (by decide) ?_
  refine QW.goto (tgt := 52) dMo_isOpen_48 (by decide) ?_
  exact QW.iret dMo_isOpen_52 rfl rfl k1
theorem dMo_sameLess_0 : decode mMo_sameLess.2.1 0 = .ok (.aload_n 0, 1) := by decide +kernel
theorem dMo_sameLess_1 : decode mMo_sameLess.2.1 1 = .ok (.iconst 1, 1) := by decide +kernel
theorem dMo_sameLess_2 : decode mMo_sameLess.2.1 2 = .ok (.iload_n 3, 1) := by decide +kernel
theorem dMo_sameLess_3 : decode mMo_sameLess.2.1 3 = .ok (.invokevirtual 271, 3) := by decide +kernel
theorem dMo_sameLess_6 : decode mMo_sameLess.2.1 6 = .ok (.ifCond .eq 67, 3) := by decide +kernel
theorem dMo_sameLess_9 : decode mMo_sameLess.2.1 9 = .ok (.aload_n 0, 1) := by decide +kernel
theorem dMo_sameLess_10 : decode mMo_sameLess.2.1 10 = .ok (.iload_n 1, 1) := by decide +kernel
theorem dMo_sameLess_11 : decode mMo_sameLess.2.1 11 = .ok (.aload_n 0, 1) := by decide +kernel
theorem dMo_sameLess_12 : decode mMo_sameLess.2.1 12 = .ok (.iconst 0, 1) := by decide +kernel
theorem dMo_sameLess_13 : decode mMo_sameLess.2.1 13 = .ok (.aload_n 0, 1) := by decide +kernel
theorem dMo_sameLess_14 : decode mMo_sameLess.2.1 14 = .ok (.getfield 58, 3) := by decide +kernel
theorem dMo_sameLess_17 : decode mMo_sameLess.2.1 17 = .ok (.iload_n 2, 1) := by decide +kernel
theorem dMo_sameLess_18 : decode mMo_sameLess.2.1 18 = .ok (.iaload, 1) := by decide +kernel
theorem dMo_sameLess_19 : decode mMo_sameLess.2.1 19 = .ok (.invokevirtual 250, 3) := by decide +kernel
theorem dMo_sameLess_22 : decode mMo_sameLess.2.1 22 = .ok (.aload_n 0, 1) := by decide +kernel
theorem dMo_sameLess_23 : decode mMo_sameLess.2.1 23 = .ok (.iconst 1, 1) := by decide +kernel
theorem dMo_sameLess_24 : decode mMo_sameLess.2.1 24 = .ok (.aload_n 0, 1) := by decide +kernel
theorem dMo_sameLess_25 : decode mMo_sameLess.2.1 25 = .ok (.getfield 58, 3) := by decide +kernel
theorem dMo_sameLess_28 : decode mMo_sameLess.2.1 28 = .ok (.iload_n 3, 1) := by decide +kernel
theorem dMo_sameLess_29 : decode mMo_sameLess.2.1 29 = .ok (.iaload, 1) := by decide +kernel
theorem dMo_sameLess_30 : decode mMo_sameLess.2.1 30 = .ok (.invokevirtual 250, 3) := by decide +kernel
theorem dMo_sameLess_33 : decode mMo_sameLess.2.1 33 = .ok (.invokevirtual 274, 3) := by decide +kernel
theorem dMo_sameLess_36 : decode mMo_sameLess.2.1 36 = .ok (.ifCond .eq 37, 3) := by decide +kernel
theorem dMo_sameLess_39 : decode mMo_sameLess.2.1 39 = .ok (.aload_n 0, 1) := by decide +kernel
theorem dMo_sameLess_40 : decode mMo_sameLess.2.1 40 = .ok (.iload_n 1, 1) := by decide +kernel
theorem dMo_sameLess_41 : decode mMo_sameLess.2.1 41 = .ok (.aload_n 0, 1) := by decide +kernel
theorem dMo_sameLess_42 : decode mMo_sameLess.2.1 42 = .ok (.iconst 0, 1) := by decide +kernel
theorem dMo_sameLess_43 : decode mMo_sameLess.2.1 43 = .ok (.aload_n 0, 1) := by decide +kernel
theorem dMo_sameLess_44 : decode mMo_sameLess.2.1 44 = .ok (.getfield 61, 3) := by decide +kernel
theorem dMo_sameLess_47 : decode mMo_sameLess.2.1 47 = .ok (.iload_n 2, 1) := by decide +kernel
theorem dMo_sameLess_48 : decode mMo_sameLess.2.1 48 = .ok (.iaload, 1) := by decide +kernel
theorem dMo_sameLess_49 : decode mMo_sameLess.2.1 49 = .ok (.invokevirtual 250, 3) := by decide +kernel
theorem dMo_sameLess_52 : decode mMo_sameLess.2.1 52 = .ok (.aload_n 0, 1) := by decide +kernel
theorem dMo_sameLess_53 : decode mMo_sameLess.2.1 53 = .ok (.iconst 1, 1) := by decide +kernel
theorem dMo_sameLess_54 : decode mMo_sameLess.2.1 54 = .ok (.aload_n 0, 1) := by decide +kernel
theorem dMo_sameLess_55 : decode mMo_sameLess.2.1 55 = .ok (.getfield 61, 3) := by decide +kernel
theorem dMo_sameLess_58 : decode mMo_sameLess.2.1 58 = .ok (.iload_n 3, 1) := by decide +kernel
theorem dMo_sameLess_59 : decode mMo_sameLess.2.1 59 = .ok (.iaload, 1) := by decide +kernel
theorem dMo_sameLess_60 : decode mMo_sameLess.2.1 60 = .ok (.invokevirtual 250, 3) := by decide +kernel
theorem dMo_sameLess_63 : decode mMo_sameLess.2.1 63 = .ok (.invokevirtual 274, 3) := by decide +kernel
theorem dMo_sameLess_66 : decode mMo_sameLess.2.1 66 = .ok (.ifCond .eq 7, 3) := by decide +kernel
theorem dMo_sameLess_69 : decode mMo_sameLess.2.1 69 = .ok (.iconst 1, 1) := by decide +kernel
theorem dMo_sameLess_70 : decode mMo_sameLess.2.1 70 = .ok (.goto 4, 3) := by decide +kernel
theorem dMo_sameLess_73 : decode mMo_sameLess.2.1 73 = .ok (.iconst 0, 1) := by decide +kernel
theorem dMo_sameLess_74 : decode mMo_sameLess.2.1 74 = .ok (.ireturn, 1) := by decide +kernel
def lMo_sameLess_6 (a1 : Int32) (a2 : Int32) (a3 : Int32) : List Slot := [.val (.ref 193), .val (.int a1), .val (.int a2), .val (.int a3)]
def lMo_sameLess_22 (a1 : Int32) (a2 : Int32) (a3 : Int32) : List Slot := [.val (.ref 193), .val (.int a1), .val (.int a2), .val (.int a3)]
def lMo_sameLess_33 (a1 : Int32) (a2 : Int32) (a3 : Int32) : List Slot := [.val (.ref 193), .val (.int a1), .val (.int a2), .val (.int a3)]
def lMo_sameLess_36 (a1 : Int32) (a2 : Int32) (a3 : Int32) : List Slot := [.val (.ref 193), .val (.int a1), .val (.int a2), .val (.int a3)]
def lMo_sameLess_52 (a1 : Int32) (a2 : Int32) (a3 : Int32) : List Slot := [.val (.ref 193), .val (.int a1), .val (.int a2), .val (.int a3)]
def lMo_sameLess_63 (a1 : Int32) (a2 : Int32) (a3 : Int32) : List Slot := [.val (.ref 193), .val (.int a1), .val (.int a2), .val (.int a3)]
def lMo_sameLess_66 (a1 : Int32) (a2 : Int32) (a3 : Int32) : List Slot := [.val (.ref 193), .val (.int a1), .val (.int a2), .val (.int a3)]
theorem bMo_sameLess_0 {a1 : Int32} {a2 : Int32} {a3 : Int32} (hX : X.length = 13) (k1 : QW d mMo_isOpen 0 (qen 3 [.ref 193, .int 1, .int a3]) [] (hpo X mem sw o e) (qcl d mMo_sameLess 3 6 (lMo_sameLess_6 a1 a2 a3) [] P)) : QW (d + 1) mMo_sameLess 0 (qen 4 [.ref 193, .int a1, .int a2, .int a3]) [] (hpo X mem sw o e) P := by
  show QW (d + 1) mMo_sameLess 0 [.val (.ref 193), .val (.int a1), .val (.int a2), .val (.int a3)] [] (hpo X mem sw o e) P
  refine QW.aload_n dMo_sameLess_0 rfl rfl ?_
  refine QW.iconst (v := 1) dMo_sameLess_1 (by decide) ?_
  refine QW.iload_n dMo_sameLess_2 rfl rfl ?_
  exact MW.calV (as := [.int 1, .int a3]) (rest := []) hX dMo_sameLess_3 eMo_isOpen lMo_271 iMo_isOpen vMo_isOpen rfl rfl rfl rfl rfl rfl (Nat.le_of_ble_eq_true rfl) rfl k1
theorem bMo_sameLess_6 {a1 : Int32} {a2 : Int32} {a3 : Int32} {s0 : Int32} (hX : X.length = 13) (k1 : (s0 = 0) → P (.inl (some (.int 0)), (hpo X mem sw o e))) (h2 : (¬ s0 = 0) → inx a2 90) (k3 : (¬ s0 = 0) → QW d mMo_node 0 (qen 4 [.ref 193, .int 0, .int (mem 208 (Int32.toNatClampNeg a2))]) [] (hpo X mem sw o e) (qcl d mMo_sameLess 19 22 (lMo_sameLess_22 a1 a2 a3) [.int a1, .ref 193] P)) : QW (d + 1) mMo_sameLess 6 (lMo_sameLess_6 a1 a2 a3) [.int s0] (hpo X mem sw o e) P := by
  show QW (d + 1) mMo_sameLess 6 [.val (.ref 193), .val (.int a1), .val (.int a2), .val (.int a3)] [.int s0] (hpo X mem sw o e) P
  refine QW.if_eq (tgt := 73) dMo_sameLess_6 (by decide) (fun z0 => ?_) (fun z0 => ?_)
  · refine QW.iconst (v := 0) dMo_sameLess_73 (by decide) ?_
    exact QW.iret dMo_sameLess_74 rfl rfl (k1 z0)
  · refine QW.aload_n dMo_sameLess_9 rfl rfl ?_
    refine QW.iload_n dMo_sameLess_10 rfl rfl ?_
    refine QW.aload_n dMo_sameLess_11 rfl rfl ?_
    refine QW.iconst (v := 0) dMo_sameLess_12 (by decide) ?_
    refine QW.aload_n dMo_sameLess_13 rfl rfl ?_
    refine MW.getr (r' := 208) hX dMo_sameLess_14 fMo_58 rfl rfl (by cases sw <;> rfl) ?_
    refine QW.iload_n dMo_sameLess_17 rfl rfl ?_
    refine MW.iald hX dMo_sameLess_18 rfl (h2 z0).1 (rep_get (h2 z0).2) ?_
    exact MW.calV (as := [.int 0, .int (mem 208 (Int32.toNatClampNeg a2))]) (rest := [.int a1, .ref 193]) hX dMo_sameLess_19 eMo_node lMo_250 iMo_node vMo_node rfl rfl rfl rfl rfl rfl (Nat.le_of_ble_eq_true rfl) rfl (k3 z0)
theorem bMo_sameLess_22 {a1 : Int32} {a2 : Int32} {a3 : Int32} {s2 : Int32} {s1 : Int32} (hX : X.length = 13) (h1 : inx a3 90) (k2 : QW d mMo_node 0 (qen 4 [.ref 193, .int 1, .int (mem 208 (Int32.toNatClampNeg a3))]) [] (hpo X mem sw o e) (qcl d mMo_sameLess 30 33 (lMo_sameLess_33 a1 a2 a3) [.int s2, .int s1, .ref 193] P)) : QW (d + 1) mMo_sameLess 22 (lMo_sameLess_22 a1 a2 a3) [.int s2, .int s1, .ref 193] (hpo X mem sw o e) P := by
  show QW (d + 1) mMo_sameLess 22 [.val (.ref 193), .val (.int a1), .val (.int a2), .val (.int a3)] [.int s2, .int s1, .ref 193] (hpo X mem sw o e) P
  refine QW.aload_n dMo_sameLess_22 rfl rfl ?_
  refine QW.iconst (v := 1) dMo_sameLess_23 (by decide) ?_
  refine QW.aload_n dMo_sameLess_24 rfl rfl ?_
  refine MW.getr (r' := 208) hX dMo_sameLess_25 fMo_58 rfl rfl (by cases sw <;> rfl) ?_
  refine QW.iload_n dMo_sameLess_28 rfl rfl ?_
  refine MW.iald hX dMo_sameLess_29 rfl h1.1 (rep_get h1.2) ?_
  exact MW.calV (as := [.int 1, .int (mem 208 (Int32.toNatClampNeg a3))]) (rest := [.int s2, .int s1, .ref 193]) hX dMo_sameLess_30 eMo_node lMo_250 iMo_node vMo_node rfl rfl rfl rfl rfl rfl (Nat.le_of_ble_eq_true rfl) rfl k2
theorem bMo_sameLess_33 {a1 : Int32} {a2 : Int32} {a3 : Int32} {s3 : Int32} {s2 : Int32} {s1 : Int32} (hX : X.length = 13) (k1 : QW d mMo_goWith 0 (qen 5 [.ref 193, .int s1, .int s2, .int s3]) [] (hpo X mem sw o e) (qcl d mMo_sameLess 33 36 (lMo_sameLess_36 a1 a2 a3) [] P)) : QW (d + 1) mMo_sameLess 33 (lMo_sameLess_33 a1 a2 a3) [.int s3, .int s2, .int s1, .ref 193] (hpo X mem sw o e) P := by
  show QW (d + 1) mMo_sameLess 33 [.val (.ref 193), .val (.int a1), .val (.int a2), .val (.int a3)] [.int s3, .int s2, .int s1, .ref 193] (hpo X mem sw o e) P
  exact MW.calV (as := [.int s1, .int s2, .int s3]) (rest := []) hX dMo_sameLess_33 eMo_goWith lMo_274 iMo_goWith vMo_goWith rfl rfl rfl rfl rfl rfl (Nat.le_of_ble_eq_true rfl) rfl k1
theorem bMo_sameLess_36 {a1 : Int32} {a2 : Int32} {a3 : Int32} {s0 : Int32} (hX : X.length = 13) (k1 : (s0 = 0) → P (.inl (some (.int 0)), (hpo X mem sw o e))) (h2 : (¬ s0 = 0) → inx a2 90) (k3 : (¬ s0 = 0) → QW d mMo_node 0 (qen 4 [.ref 193, .int 0, .int (mem 209 (Int32.toNatClampNeg a2))]) [] (hpo X mem sw o e) (qcl d mMo_sameLess 49 52 (lMo_sameLess_52 a1 a2 a3) [.int a1, .ref 193] P)) : QW (d + 1) mMo_sameLess 36 (lMo_sameLess_36 a1 a2 a3) [.int s0] (hpo X mem sw o e) P := by
  show QW (d + 1) mMo_sameLess 36 [.val (.ref 193), .val (.int a1), .val (.int a2), .val (.int a3)] [.int s0] (hpo X mem sw o e) P
  refine QW.if_eq (tgt := 73) dMo_sameLess_36 (by decide) (fun z0 => ?_) (fun z0 => ?_)
  · refine QW.iconst (v := 0) dMo_sameLess_73 (by decide) ?_
    exact QW.iret dMo_sameLess_74 rfl rfl (k1 z0)
  · refine QW.aload_n dMo_sameLess_39 rfl rfl ?_
    refine QW.iload_n dMo_sameLess_40 rfl rfl ?_
    refine QW.aload_n dMo_sameLess_41 rfl rfl ?_
    refine QW.iconst (v := 0) dMo_sameLess_42 (by decide) ?_
    refine QW.aload_n dMo_sameLess_43 rfl rfl ?_
    refine MW.getr (r' := 209) hX dMo_sameLess_44 fMo_61 rfl rfl (by cases sw <;> rfl) ?_
    refine QW.iload_n dMo_sameLess_47 rfl rfl ?_
    refine MW.iald hX dMo_sameLess_48 rfl (h2 z0).1 (rep_get (h2 z0).2) ?_
    exact MW.calV (as := [.int 0, .int (mem 209 (Int32.toNatClampNeg a2))]) (rest := [.int a1, .ref 193]) hX dMo_sameLess_49 eMo_node lMo_250 iMo_node vMo_node rfl rfl rfl rfl rfl rfl (Nat.le_of_ble_eq_true rfl) rfl (k3 z0)
theorem bMo_sameLess_52 {a1 : Int32} {a2 : Int32} {a3 : Int32} {s2 : Int32} {s1 : Int32} (hX : X.length = 13) (h1 : inx a3 90) (k2 : QW d mMo_node 0 (qen 4 [.ref 193, .int 1, .int (mem 209 (Int32.toNatClampNeg a3))]) [] (hpo X mem sw o e) (qcl d mMo_sameLess 60 63 (lMo_sameLess_63 a1 a2 a3) [.int s2, .int s1, .ref 193] P)) : QW (d + 1) mMo_sameLess 52 (lMo_sameLess_52 a1 a2 a3) [.int s2, .int s1, .ref 193] (hpo X mem sw o e) P := by
  show QW (d + 1) mMo_sameLess 52 [.val (.ref 193), .val (.int a1), .val (.int a2), .val (.int a3)] [.int s2, .int s1, .ref 193] (hpo X mem sw o e) P
  refine QW.aload_n dMo_sameLess_52 rfl rfl ?_
  refine QW.iconst (v := 1) dMo_sameLess_53 (by decide) ?_
  refine QW.aload_n dMo_sameLess_54 rfl rfl ?_
  refine MW.getr (r' := 209) hX dMo_sameLess_55 fMo_61 rfl rfl (by cases sw <;> rfl) ?_
  refine QW.iload_n dMo_sameLess_58 rfl rfl ?_
  refine MW.iald hX dMo_sameLess_59 rfl h1.1 (rep_get h1.2) ?_
  exact MW.calV (as := [.int 1, .int (mem 209 (Int32.toNatClampNeg a3))]) (rest := [.int s2, .int s1, .ref 193]) hX dMo_sameLess_60 eMo_node lMo_250 iMo_node vMo_node rfl rfl rfl rfl rfl rfl (Nat.le_of_ble_eq_true rfl) rfl k2
theorem bMo_sameLess_63 {a1 : Int32} {a2 : Int32} {a3 : Int32} {s3 : Int32} {s2 : Int32} {s1 : Int32} (hX : X.length = 13) (k1 : QW d mMo_goWith 0 (qen 5 [.ref 193, .int s1, .int s2, .int s3]) [] (hpo X mem sw o e) (qcl d mMo_sameLess 63 66 (lMo_sameLess_66 a1 a2 a3) [] P)) : QW (d + 1) mMo_sameLess 63 (lMo_sameLess_63 a1 a2 a3) [.int s3, .int s2, .int s1, .ref 193] (hpo X mem sw o e) P := by
  show QW (d + 1) mMo_sameLess 63 [.val (.ref 193), .val (.int a1), .val (.int a2), .val (.int a3)] [.int s3, .int s2, .int s1, .ref 193] (hpo X mem sw o e) P
  exact MW.calV (as := [.int s1, .int s2, .int s3]) (rest := []) hX dMo_sameLess_63 eMo_goWith lMo_274 iMo_goWith vMo_goWith rfl rfl rfl rfl rfl rfl (Nat.le_of_ble_eq_true rfl) rfl k1
theorem bMo_sameLess_66 {a1 : Int32} {a2 : Int32} {a3 : Int32} {s0 : Int32} (hX : X.length = 13) (k1 : (s0 = 0) → P (.inl (some (.int 0)), (hpo X mem sw o e))) (k2 : (¬ s0 = 0) → P (.inl (some (.int 1)), (hpo X mem sw o e))) : QW d mMo_sameLess 66 (lMo_sameLess_66 a1 a2 a3) [.int s0] (hpo X mem sw o e) P := by
  show QW d mMo_sameLess 66 [.val (.ref 193), .val (.int a1), .val (.int a2), .val (.int a3)] [.int s0] (hpo X mem sw o e) P
  refine QW.if_eq (tgt := 73) dMo_sameLess_66 (by decide) (fun z0 => ?_) (fun z0 => ?_)
  · refine QW.iconst (v := 0) dMo_sameLess_73 (by decide) ?_
    exact QW.iret dMo_sameLess_74 rfl rfl (k1 z0)
  · refine QW.iconst (v := 1) dMo_sameLess_69 (by decide) ?_
    refine QW.goto (tgt := 74) dMo_sameLess_70 (by decide) ?_
    exact QW.iret dMo_sameLess_74 rfl rfl (k2 z0)
theorem dMo_fits_0 : decode mMo_fits.2.1 0 = .ok (.aload_n 0, 1) := by decide +kernel
theorem dMo_fits_1 : decode mMo_fits.2.1 1 = .ok (.iload_n 1, 1) := by decide +kernel
theorem dMo_fits_2 : decode mMo_fits.2.1 2 = .ok (.invokevirtual 278, 3) := by decide +kernel
theorem dMo_fits_5 : decode mMo_fits.2.1 5 = .ok (.ifCond .ne 5, 3) := by decide +kernel
theorem dMo_fits_8 : decode mMo_fits.2.1 8 = .ok (.iconst 0, 1) := by decide +kernel
theorem dMo_fits_9 : decode mMo_fits.2.1 9 = .ok (.ireturn, 1) := by decide +kernel
theorem dMo_fits_10 : decode mMo_fits.2.1 10 = .ok (.iconst 0, 1) := by decide +kernel
theorem dMo_fits_11 : decode mMo_fits.2.1 11 = .ok (.istore_n 3, 1) := by decide +kernel
theorem dMo_fits_12 : decode mMo_fits.2.1 12 = .ok (.iload_n 3, 1) := by decide +kernel
theorem dMo_fits_13 : decode mMo_fits.2.1 13 = .ok (.aload_n 0, 1) := by decide +kernel
theorem dMo_fits_14 : decode mMo_fits.2.1 14 = .ok (.getfield 40, 3) := by decide +kernel
theorem dMo_fits_17 : decode mMo_fits.2.1 17 = .ok (.iload_n 1, 1) := by decide +kernel
theorem dMo_fits_18 : decode mMo_fits.2.1 18 = .ok (.iaload, 1) := by decide +kernel
theorem dMo_fits_19 : decode mMo_fits.2.1 19 = .ok (.if_icmp .ge 49, 3) := by decide +kernel
theorem dMo_fits_22 : decode mMo_fits.2.1 22 = .ok (.aload_n 0, 1) := by decide +kernel
theorem dMo_fits_23 : decode mMo_fits.2.1 23 = .ok (.iload_n 1, 1) := by decide +kernel
theorem dMo_fits_24 : decode mMo_fits.2.1 24 = .ok (.aload_n 0, 1) := by decide +kernel
theorem dMo_fits_25 : decode mMo_fits.2.1 25 = .ok (.iconst 0, 1) := by decide +kernel
theorem dMo_fits_26 : decode mMo_fits.2.1 26 = .ok (.aload_n 0, 1) := by decide +kernel
theorem dMo_fits_27 : decode mMo_fits.2.1 27 = .ok (.getfield 43, 3) := by decide +kernel
theorem dMo_fits_30 : decode mMo_fits.2.1 30 = .ok (.iconst 3, 1) := by decide +kernel
theorem dMo_fits_31 : decode mMo_fits.2.1 31 = .ok (.iload_n 1, 1) := by decide +kernel
theorem dMo_fits_32 : decode mMo_fits.2.1 32 = .ok (.imul, 1) := by decide +kernel
theorem dMo_fits_33 : decode mMo_fits.2.1 33 = .ok (.iload_n 3, 1) := by decide +kernel
theorem dMo_fits_34 : decode mMo_fits.2.1 34 = .ok (.iadd, 1) := by decide +kernel
theorem dMo_fits_35 : decode mMo_fits.2.1 35 = .ok (.iaload, 1) := by decide +kernel
theorem dMo_fits_36 : decode mMo_fits.2.1 36 = .ok (.invokevirtual 250, 3) := by decide +kernel
theorem dMo_fits_39 : decode mMo_fits.2.1 39 = .ok (.aload_n 0, 1) := by decide +kernel
theorem dMo_fits_40 : decode mMo_fits.2.1 40 = .ok (.iconst 1, 1) := by decide +kernel
theorem dMo_fits_41 : decode mMo_fits.2.1 41 = .ok (.aload_n 0, 1) := by decide +kernel
theorem dMo_fits_42 : decode mMo_fits.2.1 42 = .ok (.getfield 43, 3) := by decide +kernel
theorem dMo_fits_45 : decode mMo_fits.2.1 45 = .ok (.iconst 3, 1) := by decide +kernel
theorem dMo_fits_46 : decode mMo_fits.2.1 46 = .ok (.iload_n 2, 1) := by decide +kernel
theorem dMo_fits_47 : decode mMo_fits.2.1 47 = .ok (.imul, 1) := by decide +kernel
theorem dMo_fits_48 : decode mMo_fits.2.1 48 = .ok (.iload_n 3, 1) := by decide +kernel
theorem dMo_fits_49 : decode mMo_fits.2.1 49 = .ok (.iadd, 1) := by decide +kernel
theorem dMo_fits_50 : decode mMo_fits.2.1 50 = .ok (.iaload, 1) := by decide +kernel
theorem dMo_fits_51 : decode mMo_fits.2.1 51 = .ok (.invokevirtual 250, 3) := by decide +kernel
theorem dMo_fits_54 : decode mMo_fits.2.1 54 = .ok (.invokevirtual 274, 3) := by decide +kernel
theorem dMo_fits_57 : decode mMo_fits.2.1 57 = .ok (.ifCond .ne 5, 3) := by decide +kernel
theorem dMo_fits_60 : decode mMo_fits.2.1 60 = .ok (.iconst 0, 1) := by decide +kernel
theorem dMo_fits_61 : decode mMo_fits.2.1 61 = .ok (.ireturn, 1) := by decide +kernel
theorem dMo_fits_62 : decode mMo_fits.2.1 62 = .ok (.iinc 3 1, 3) := by decide +kernel
theorem dMo_fits_65 : decode mMo_fits.2.1 65 = .ok (.goto (-53), 3) := by decide +kernel
theorem dMo_fits_68 : decode mMo_fits.2.1 68 = .ok (.bipush 6, 2) := by decide +kernel
theorem dMo_fits_70 : decode mMo_fits.2.1 70 = .ok (.iload_n 1, 1) := by decide +kernel
theorem dMo_fits_71 : decode mMo_fits.2.1 71 = .ok (.imul, 1) := by decide +kernel
theorem dMo_fits_72 : decode mMo_fits.2.1 72 = .ok (.istore_n 3, 1) := by decide +kernel
theorem dMo_fits_73 : decode mMo_fits.2.1 73 = .ok (.iload_n 3, 1) := by decide +kernel
theorem dMo_fits_74 : decode mMo_fits.2.1 74 = .ok (.bipush 6, 2) := by decide +kernel
theorem dMo_fits_76 : decode mMo_fits.2.1 76 = .ok (.iload_n 1, 1) := by decide +kernel
theorem dMo_fits_77 : decode mMo_fits.2.1 77 = .ok (.imul, 1) := by decide +kernel
theorem dMo_fits_78 : decode mMo_fits.2.1 78 = .ok (.aload_n 0, 1) := by decide +kernel
theorem dMo_fits_79 : decode mMo_fits.2.1 79 = .ok (.getfield 55, 3) := by decide +kernel
theorem dMo_fits_82 : decode mMo_fits.2.1 82 = .ok (.iload_n 1, 1) := by decide +kernel
theorem dMo_fits_83 : decode mMo_fits.2.1 83 = .ok (.iaload, 1) := by decide +kernel
theorem dMo_fits_84 : decode mMo_fits.2.1 84 = .ok (.iadd, 1) := by decide +kernel
theorem dMo_fits_85 : decode mMo_fits.2.1 85 = .ok (.if_icmp .ge 83, 3) := by decide +kernel
theorem dMo_fits_88 : decode mMo_fits.2.1 88 = .ok (.aload_n 0, 1) := by decide +kernel
theorem dMo_fits_89 : decode mMo_fits.2.1 89 = .ok (.iconst 0, 1) := by decide +kernel
theorem dMo_fits_90 : decode mMo_fits.2.1 90 = .ok (.iload_n 3, 1) := by decide +kernel
theorem dMo_fits_91 : decode mMo_fits.2.1 91 = .ok (.invokevirtual 271, 3) := by decide +kernel
theorem dMo_fits_94 : decode mMo_fits.2.1 94 = .ok (.ifCond .ne 7, 3) := by decide +kernel
theorem dMo_fits_97 : decode mMo_fits.2.1 97 = .ok (.iconst 1, 1) := by decide +kernel
theorem dMo_fits_98 : decode mMo_fits.2.1 98 = .ok (.goto 4, 3) := by decide +kernel
theorem dMo_fits_101 : decode mMo_fits.2.1 101 = .ok (.iconst 0, 1) := by decide +kernel
theorem dMo_fits_102 : decode mMo_fits.2.1 102 = .ok (.istore 4, 2) := by decide +kernel
theorem dMo_fits_104 : decode mMo_fits.2.1 104 = .ok (.bipush 6, 2) := by decide +kernel
theorem dMo_fits_106 : decode mMo_fits.2.1 106 = .ok (.iload_n 2, 1) := by decide +kernel
theorem dMo_fits_107 : decode mMo_fits.2.1 107 = .ok (.imul, 1) := by decide +kernel
theorem dMo_fits_108 : decode mMo_fits.2.1 108 = .ok (.istore 5, 2) := by decide +kernel
theorem dMo_fits_110 : decode mMo_fits.2.1 110 = .ok (.iload 5, 2) := by decide +kernel
theorem dMo_fits_112 : decode mMo_fits.2.1 112 = .ok (.bipush 6, 2) := by decide +kernel
theorem dMo_fits_114 : decode mMo_fits.2.1 114 = .ok (.iload_n 2, 1) := by decide +kernel
theorem dMo_fits_115 : decode mMo_fits.2.1 115 = .ok (.imul, 1) := by decide +kernel
theorem dMo_fits_116 : decode mMo_fits.2.1 116 = .ok (.aload_n 0, 1) := by decide +kernel
theorem dMo_fits_117 : decode mMo_fits.2.1 117 = .ok (.getfield 55, 3) := by decide +kernel
theorem dMo_fits_120 : decode mMo_fits.2.1 120 = .ok (.iload_n 2, 1) := by decide +kernel
theorem dMo_fits_121 : decode mMo_fits.2.1 121 = .ok (.iaload, 1) := by decide +kernel
theorem dMo_fits_122 : decode mMo_fits.2.1 122 = .ok (.iadd, 1) := by decide +kernel
theorem dMo_fits_123 : decode mMo_fits.2.1 123 = .ok (.if_icmp .ge 32, 3) := by decide +kernel
theorem dMo_fits_126 : decode mMo_fits.2.1 126 = .ok (.iload 4, 2) := by decide +kernel
theorem dMo_fits_128 : decode mMo_fits.2.1 128 = .ok (.ifCond .ne 14, 3) := by decide +kernel
theorem dMo_fits_131 : decode mMo_fits.2.1 131 = .ok (.aload_n 0, 1) := by decide +kernel
theorem dMo_fits_132 : decode mMo_fits.2.1 132 = .ok (.iload_n 1, 1) := by decide +kernel
theorem dMo_fits_133 : decode mMo_fits.2.1 133 = .ok (.iload_n 3, 1) := by decide +kernel
theorem dMo_fits_134 : decode mMo_fits.2.1 134 = .ok (.iload 5, 2) := by decide +kernel
theorem dMo_fits_136 : decode mMo_fits.2.1 136 = .ok (.invokevirtual 281, 3) := by decide +kernel
theorem dMo_fits_139 : decode mMo_fits.2.1 139 = .ok (.ifCond .eq 7, 3) := by decide +kernel
theorem dMo_fits_142 : decode mMo_fits.2.1 142 = .ok (.iconst 1, 1) := by decide +kernel
theorem dMo_fits_143 : decode mMo_fits.2.1 143 = .ok (.goto 4, 3) := by decide +kernel
theorem dMo_fits_146 : decode mMo_fits.2.1 146 = .ok (.iconst 0, 1) := by decide +kernel
theorem dMo_fits_147 : decode mMo_fits.2.1 147 = .ok (.istore 4, 2) := by decide +kernel
theorem dMo_fits_149 : decode mMo_fits.2.1 149 = .ok (.iinc 5 1, 3) := by decide +kernel
theorem dMo_fits_152 : decode mMo_fits.2.1 152 = .ok (.goto (-42), 3) := by decide +kernel
theorem dMo_fits_155 : decode mMo_fits.2.1 155 = .ok (.iload 4, 2) := by decide +kernel
theorem dMo_fits_157 : decode mMo_fits.2.1 157 = .ok (.ifCond .ne 5, 3) := by decide +kernel
theorem dMo_fits_160 : decode mMo_fits.2.1 160 = .ok (.iconst 0, 1) := by decide +kernel
theorem dMo_fits_161 : decode mMo_fits.2.1 161 = .ok (.ireturn, 1) := by decide +kernel
theorem dMo_fits_162 : decode mMo_fits.2.1 162 = .ok (.iinc 3 1, 3) := by decide +kernel
theorem dMo_fits_165 : decode mMo_fits.2.1 165 = .ok (.goto (-92), 3) := by decide +kernel
theorem dMo_fits_168 : decode mMo_fits.2.1 168 = .ok (.bipush 6, 2) := by decide +kernel
theorem dMo_fits_170 : decode mMo_fits.2.1 170 = .ok (.iload_n 2, 1) := by decide +kernel
theorem dMo_fits_171 : decode mMo_fits.2.1 171 = .ok (.imul, 1) := by decide +kernel
theorem dMo_fits_172 : decode mMo_fits.2.1 172 = .ok (.istore_n 3, 1) := by decide +kernel
theorem dMo_fits_173 : decode mMo_fits.2.1 173 = .ok (.iload_n 3, 1) := by decide +kernel
theorem dMo_fits_174 : decode mMo_fits.2.1 174 = .ok (.bipush 6, 2) := by decide +kernel
theorem dMo_fits_176 : decode mMo_fits.2.1 176 = .ok (.iload_n 2, 1) := by decide +kernel
theorem dMo_fits_177 : decode mMo_fits.2.1 177 = .ok (.imul, 1) := by decide +kernel
theorem dMo_fits_178 : decode mMo_fits.2.1 178 = .ok (.aload_n 0, 1) := by decide +kernel
theorem dMo_fits_179 : decode mMo_fits.2.1 179 = .ok (.getfield 55, 3) := by decide +kernel
theorem dMo_fits_182 : decode mMo_fits.2.1 182 = .ok (.iload_n 2, 1) := by decide +kernel
theorem dMo_fits_183 : decode mMo_fits.2.1 183 = .ok (.iaload, 1) := by decide +kernel
theorem dMo_fits_184 : decode mMo_fits.2.1 184 = .ok (.iadd, 1) := by decide +kernel
theorem dMo_fits_185 : decode mMo_fits.2.1 185 = .ok (.if_icmp .ge 93, 3) := by decide +kernel
theorem dMo_fits_188 : decode mMo_fits.2.1 188 = .ok (.aload_n 0, 1) := by decide +kernel
theorem dMo_fits_189 : decode mMo_fits.2.1 189 = .ok (.iconst 1, 1) := by decide +kernel
theorem dMo_fits_190 : decode mMo_fits.2.1 190 = .ok (.iload_n 3, 1) := by decide +kernel
theorem dMo_fits_191 : decode mMo_fits.2.1 191 = .ok (.invokevirtual 271, 3) := by decide +kernel
theorem dMo_fits_194 : decode mMo_fits.2.1 194 = .ok (.ifCond .ne 7, 3) := by decide +kernel
theorem dMo_fits_197 : decode mMo_fits.2.1 197 = .ok (.iconst 1, 1) := by decide +kernel
theorem dMo_fits_198 : decode mMo_fits.2.1 198 = .ok (.goto 4, 3) := by decide +kernel
theorem dMo_fits_201 : decode mMo_fits.2.1 201 = .ok (.iconst 0, 1) := by decide +kernel
theorem dMo_fits_202 : decode mMo_fits.2.1 202 = .ok (.istore 4, 2) := by decide +kernel
theorem dMo_fits_204 : decode mMo_fits.2.1 204 = .ok (.bipush 6, 2) := by decide +kernel
theorem dMo_fits_206 : decode mMo_fits.2.1 206 = .ok (.iload_n 1, 1) := by decide +kernel
theorem dMo_fits_207 : decode mMo_fits.2.1 207 = .ok (.imul, 1) := by decide +kernel
theorem dMo_fits_208 : decode mMo_fits.2.1 208 = .ok (.istore 5, 2) := by decide +kernel
theorem dMo_fits_210 : decode mMo_fits.2.1 210 = .ok (.iload 5, 2) := by decide +kernel
theorem dMo_fits_212 : decode mMo_fits.2.1 212 = .ok (.bipush 6, 2) := by decide +kernel
theorem dMo_fits_214 : decode mMo_fits.2.1 214 = .ok (.iload_n 1, 1) := by decide +kernel
theorem dMo_fits_215 : decode mMo_fits.2.1 215 = .ok (.imul, 1) := by decide +kernel
theorem dMo_fits_216 : decode mMo_fits.2.1 216 = .ok (.aload_n 0, 1) := by decide +kernel
theorem dMo_fits_217 : decode mMo_fits.2.1 217 = .ok (.getfield 55, 3) := by decide +kernel
theorem dMo_fits_220 : decode mMo_fits.2.1 220 = .ok (.iload_n 1, 1) := by decide +kernel
theorem dMo_fits_221 : decode mMo_fits.2.1 221 = .ok (.iaload, 1) := by decide +kernel
theorem dMo_fits_222 : decode mMo_fits.2.1 222 = .ok (.iadd, 1) := by decide +kernel
theorem dMo_fits_223 : decode mMo_fits.2.1 223 = .ok (.if_icmp .ge 42, 3) := by decide +kernel
theorem dMo_fits_226 : decode mMo_fits.2.1 226 = .ok (.iload 4, 2) := by decide +kernel
theorem dMo_fits_228 : decode mMo_fits.2.1 228 = .ok (.ifCond .ne 24, 3) := by decide +kernel
theorem dMo_fits_231 : decode mMo_fits.2.1 231 = .ok (.aload_n 0, 1) := by decide +kernel
theorem dMo_fits_232 : decode mMo_fits.2.1 232 = .ok (.iconst 0, 1) := by decide +kernel
theorem dMo_fits_233 : decode mMo_fits.2.1 233 = .ok (.iload 5, 2) := by decide +kernel
theorem dMo_fits_235 : decode mMo_fits.2.1 235 = .ok (.invokevirtual 271, 3) := by decide +kernel
theorem dMo_fits_238 : decode mMo_fits.2.1 238 = .ok (.ifCond .eq 18, 3) := by decide +kernel
theorem dMo_fits_241 : decode mMo_fits.2.1 241 = .ok (.aload_n 0, 1) := by decide +kernel
theorem dMo_fits_242 : decode mMo_fits.2.1 242 = .ok (.iload_n 1, 1) := by decide +kernel
theorem dMo_fits_243 : decode mMo_fits.2.1 243 = .ok (.iload 5, 2) := by decide +kernel
theorem dMo_fits_245 : decode mMo_fits.2.1 245 = .ok (.iload_n 3, 1) := by decide +kernel
theorem dMo_fits_246 : decode mMo_fits.2.1 246 = .ok (.invokevirtual 281, 3) := by decide +kernel
theorem dMo_fits_249 : decode mMo_fits.2.1 249 = .ok (.ifCond .eq 7, 3) := by decide +kernel
theorem dMo_fits_252 : decode mMo_fits.2.1 252 = .ok (.iconst 1, 1) := by decide +kernel
theorem dMo_fits_253 : decode mMo_fits.2.1 253 = .ok (.goto 4, 3) := by decide +kernel
theorem dMo_fits_256 : decode mMo_fits.2.1 256 = .ok (.iconst 0, 1) := by decide +kernel
theorem dMo_fits_257 : decode mMo_fits.2.1 257 = .ok (.istore 4, 2) := by decide +kernel
theorem dMo_fits_259 : decode mMo_fits.2.1 259 = .ok (.iinc 5 1, 3) := by decide +kernel
theorem dMo_fits_262 : decode mMo_fits.2.1 262 = .ok (.goto (-52), 3) := by decide +kernel
theorem dMo_fits_265 : decode mMo_fits.2.1 265 = .ok (.iload 4, 2) := by decide +kernel
theorem dMo_fits_267 : decode mMo_fits.2.1 267 = .ok (.ifCond .ne 5, 3) := by decide +kernel
theorem dMo_fits_270 : decode mMo_fits.2.1 270 = .ok (.iconst 0, 1) := by decide +kernel
theorem dMo_fits_271 : decode mMo_fits.2.1 271 = .ok (.ireturn, 1) := by decide +kernel
theorem dMo_fits_272 : decode mMo_fits.2.1 272 = .ok (.iinc 3 1, 3) := by decide +kernel
theorem dMo_fits_275 : decode mMo_fits.2.1 275 = .ok (.goto (-102), 3) := by decide +kernel
theorem dMo_fits_278 : decode mMo_fits.2.1 278 = .ok (.iconst 1, 1) := by decide +kernel
theorem dMo_fits_279 : decode mMo_fits.2.1 279 = .ok (.ireturn, 1) := by decide +kernel
def lMo_fits_5 (a1 : Int32) (a2 : Int32) : List Slot := [.val (.ref 193), .val (.int a1), .val (.int a2), .unset, .unset, .unset]
def lMo_fits_12 (a1 : Int32) (a2 : Int32) (a3 : Int32) : List Slot := [.val (.ref 193), .val (.int a1), .val (.int a2), .val (.int a3), .unset, .unset]
def lMo_fits_39 (a1 : Int32) (a2 : Int32) (a3 : Int32) : List Slot := [.val (.ref 193), .val (.int a1), .val (.int a2), .val (.int a3), .unset, .unset]
def lMo_fits_54 (a1 : Int32) (a2 : Int32) (a3 : Int32) : List Slot := [.val (.ref 193), .val (.int a1), .val (.int a2), .val (.int a3), .unset, .unset]
def lMo_fits_57 (a1 : Int32) (a2 : Int32) (a3 : Int32) : List Slot := [.val (.ref 193), .val (.int a1), .val (.int a2), .val (.int a3), .unset, .unset]
def lMo_fits_73 (a1 : Int32) (a2 : Int32) (a3 : Int32) (w4 : Slot) (w5 : Slot) : List Slot := [.val (.ref 193), .val (.int a1), .val (.int a2), .val (.int a3), w4, w5]
def lMo_fits_94 (a1 : Int32) (a2 : Int32) (a3 : Int32) (w4 : Slot) (w5 : Slot) : List Slot := [.val (.ref 193), .val (.int a1), .val (.int a2), .val (.int a3), w4, w5]
def lMo_fits_102 (a1 : Int32) (a2 : Int32) (a3 : Int32) (w4 : Slot) (w5 : Slot) : List Slot := [.val (.ref 193), .val (.int a1), .val (.int a2), .val (.int a3), w4, w5]
def lMo_fits_110 (a1 : Int32) (a2 : Int32) (a3 : Int32) (a4 : Int32) (a5 : Int32) : List Slot := [.val (.ref 193), .val (.int a1), .val (.int a2), .val (.int a3), .val (.int a4), .val (.int a5)]
def lMo_fits_139 (a1 : Int32) (a2 : Int32) (a3 : Int32) (a4 : Int32) (a5 : Int32) : List Slot := [.val (.ref 193), .val (.int a1), .val (.int a2), .val (.int a3), .val (.int a4), .val (.int a5)]
def lMo_fits_142 (a1 : Int32) (a2 : Int32) (a3 : Int32) (a4 : Int32) (a5 : Int32) : List Slot := [.val (.ref 193), .val (.int a1), .val (.int a2), .val (.int a3), .val (.int a4), .val (.int a5)]
def lMo_fits_147 (a1 : Int32) (a2 : Int32) (a3 : Int32) (a4 : Int32) (a5 : Int32) : List Slot := [.val (.ref 193), .val (.int a1), .val (.int a2), .val (.int a3), .val (.int a4), .val (.int a5)]
def lMo_fits_173 (a1 : Int32) (a2 : Int32) (a3 : Int32) (w4 : Slot) (w5 : Slot) : List Slot := [.val (.ref 193), .val (.int a1), .val (.int a2), .val (.int a3), w4, w5]
def lMo_fits_194 (a1 : Int32) (a2 : Int32) (a3 : Int32) (w4 : Slot) (w5 : Slot) : List Slot := [.val (.ref 193), .val (.int a1), .val (.int a2), .val (.int a3), w4, w5]
def lMo_fits_202 (a1 : Int32) (a2 : Int32) (a3 : Int32) (w4 : Slot) (w5 : Slot) : List Slot := [.val (.ref 193), .val (.int a1), .val (.int a2), .val (.int a3), w4, w5]
def lMo_fits_210 (a1 : Int32) (a2 : Int32) (a3 : Int32) (a4 : Int32) (a5 : Int32) : List Slot := [.val (.ref 193), .val (.int a1), .val (.int a2), .val (.int a3), .val (.int a4), .val (.int a5)]
def lMo_fits_238 (a1 : Int32) (a2 : Int32) (a3 : Int32) (a4 : Int32) (a5 : Int32) : List Slot := [.val (.ref 193), .val (.int a1), .val (.int a2), .val (.int a3), .val (.int a4), .val (.int a5)]
def lMo_fits_249 (a1 : Int32) (a2 : Int32) (a3 : Int32) (a4 : Int32) (a5 : Int32) : List Slot := [.val (.ref 193), .val (.int a1), .val (.int a2), .val (.int a3), .val (.int a4), .val (.int a5)]
def lMo_fits_252 (a1 : Int32) (a2 : Int32) (a3 : Int32) (a4 : Int32) (a5 : Int32) : List Slot := [.val (.ref 193), .val (.int a1), .val (.int a2), .val (.int a3), .val (.int a4), .val (.int a5)]
def lMo_fits_256 (a1 : Int32) (a2 : Int32) (a3 : Int32) (a4 : Int32) (a5 : Int32) : List Slot := [.val (.ref 193), .val (.int a1), .val (.int a2), .val (.int a3), .val (.int a4), .val (.int a5)]
def lMo_fits_257 (a1 : Int32) (a2 : Int32) (a3 : Int32) (a4 : Int32) (a5 : Int32) : List Slot := [.val (.ref 193), .val (.int a1), .val (.int a2), .val (.int a3), .val (.int a4), .val (.int a5)]
theorem bMo_fits_0 {a1 : Int32} {a2 : Int32} (hX : X.length = 13) (k1 : QW d mMo_classesGo 0 (qen 7 [.ref 193, .int a1]) [] (hpo X mem sw o e) (qcl d mMo_fits 2 5 (lMo_fits_5 a1 a2) [] P)) : QW (d + 1) mMo_fits 0 (qen 6 [.ref 193, .int a1, .int a2]) [] (hpo X mem sw o e) P := by
  show QW (d + 1) mMo_fits 0 [.val (.ref 193), .val (.int a1), .val (.int a2), .unset, .unset, .unset] [] (hpo X mem sw o e) P
  refine QW.aload_n dMo_fits_0 rfl rfl ?_
  refine QW.iload_n dMo_fits_1 rfl rfl ?_
  exact MW.calV (as := [.int a1]) (rest := []) hX dMo_fits_2 eMo_classesGo lMo_278 iMo_classesGo vMo_classesGo rfl rfl rfl rfl rfl rfl (Nat.le_of_ble_eq_true rfl) rfl k1
theorem bMo_fits_5 {a1 : Int32} {a2 : Int32} {s0 : Int32} (hX : X.length = 13) (k1 : (¬ s0 = 0) → QW d mMo_fits 12 (lMo_fits_12 a1 a2 0) [] (hpo X mem sw o e) P) (k2 : (s0 = 0) → P (.inl (some (.int 0)), (hpo X mem sw o e))) : QW d mMo_fits 5 (lMo_fits_5 a1 a2) [.int s0] (hpo X mem sw o e) P := by
  show QW d mMo_fits 5 [.val (.ref 193), .val (.int a1), .val (.int a2), .unset, .unset, .unset] [.int s0] (hpo X mem sw o e) P
  refine QW.if_ne (tgt := 10) dMo_fits_5 (by decide) (fun z0 => ?_) (fun z0 => ?_)
  · refine QW.iconst (v := 0) dMo_fits_10 (by decide) ?_
    refine QW.istore_n (ls' := [.val (.ref 193), .val (.int a1), .val (.int a2), .val (.int 0), .unset, .unset]) dMo_fits_11 rfl rfl ?_
    exact (k1 z0)
  · refine QW.iconst (v := 0) dMo_fits_8 (by decide) ?_
    exact QW.iret dMo_fits_9 rfl rfl (k2 z0)
theorem bMo_fits_12 {a1 : Int32} {a2 : Int32} {a3 : Int32} (hX : X.length = 13) (h1 : inx a1 15) (k2 : ((mem 202 (Int32.toNatClampNeg a1)) ≤ a3) → QW (d + 1) mMo_fits 73 (lMo_fits_73 a1 a2 (6 * a1) .unset .unset) [] (hpo X mem sw o e) P) (h3 : (¬ (mem 202 (Int32.toNatClampNeg a1)) ≤ a3) → inx ((3 * a1) + a3) 45) (k4 : (¬ (mem 202 (Int32.toNatClampNeg a1)) ≤ a3) → QW d mMo_node 0 (qen 4 [.ref 193, .int 0, .int (mem 203 (Int32.toNatClampNeg ((3 * a1) + a3)))]) [] (hpo X mem sw o e) (qcl d mMo_fits 36 39 (lMo_fits_39 a1 a2 a3) [.int a1, .ref 193] P)) : QW (d + 1) mMo_fits 12 (lMo_fits_12 a1 a2 a3) [] (hpo X mem sw o e) P := by
  show QW (d + 1) mMo_fits 12 [.val (.ref 193), .val (.int a1), .val (.int a2), .val (.int a3), .unset, .unset] [] (hpo X mem sw o e) P
  refine QW.iload_n dMo_fits_12 rfl rfl ?_
  refine QW.aload_n dMo_fits_13 rfl rfl ?_
  refine MW.getr (r' := 202) hX dMo_fits_14 fMo_40 rfl rfl (by cases sw <;> rfl) ?_
  refine QW.iload_n dMo_fits_17 rfl rfl ?_
  refine MW.iald hX dMo_fits_18 rfl h1.1 (rep_get h1.2) ?_
  refine QW.icmp_ge (tgt := 68) dMo_fits_19 (by decide) (fun z0 => ?_) (fun z0 => ?_)
  · refine QW.bipush (v := 6) dMo_fits_68 (by decide) ?_
    refine QW.iload_n dMo_fits_70 rfl rfl ?_
    refine QW.imul dMo_fits_71 ?_
    refine QW.istore_n (ls' := [.val (.ref 193), .val (.int a1), .val (.int a2), .val (.int (6 * a1)), .unset, .unset]) dMo_fits_72 rfl rfl ?_
    exact (k2 z0)
  · refine QW.aload_n dMo_fits_22 rfl rfl ?_
    refine QW.iload_n dMo_fits_23 rfl rfl ?_
    refine QW.aload_n dMo_fits_24 rfl rfl ?_
    refine QW.iconst (v := 0) dMo_fits_25 (by decide) ?_
    refine QW.aload_n dMo_fits_26 rfl rfl ?_
    refine MW.getr (r' := 203) hX dMo_fits_27 fMo_43 rfl rfl (by cases sw <;> rfl) ?_
    refine QW.iconst (v := 3) dMo_fits_30 (by decide) ?_
    refine QW.iload_n dMo_fits_31 rfl rfl ?_
    refine QW.imul dMo_fits_32 ?_
    refine QW.iload_n dMo_fits_33 rfl rfl ?_
    refine QW.iadd dMo_fits_34 ?_
    refine MW.iald hX dMo_fits_35 rfl (h3 z0).1 (rep_get (h3 z0).2) ?_
    exact MW.calV (as := [.int 0, .int (mem 203 (Int32.toNatClampNeg ((3 * a1) + a3)))]) (rest := [.int a1, .ref 193]) hX dMo_fits_36 eMo_node lMo_250 iMo_node vMo_node rfl rfl rfl rfl rfl rfl (Nat.le_of_ble_eq_true rfl) rfl (k4 z0)
theorem bMo_fits_39 {a1 : Int32} {a2 : Int32} {a3 : Int32} {s2 : Int32} {s1 : Int32} (hX : X.length = 13) (h1 : inx ((3 * a2) + a3) 45) (k2 : QW d mMo_node 0 (qen 4 [.ref 193, .int 1, .int (mem 203 (Int32.toNatClampNeg ((3 * a2) + a3)))]) [] (hpo X mem sw o e) (qcl d mMo_fits 51 54 (lMo_fits_54 a1 a2 a3) [.int s2, .int s1, .ref 193] P)) : QW (d + 1) mMo_fits 39 (lMo_fits_39 a1 a2 a3) [.int s2, .int s1, .ref 193] (hpo X mem sw o e) P := by
  show QW (d + 1) mMo_fits 39 [.val (.ref 193), .val (.int a1), .val (.int a2), .val (.int a3), .unset, .unset] [.int s2, .int s1, .ref 193] (hpo X mem sw o e) P
  refine QW.aload_n dMo_fits_39 rfl rfl ?_
  refine QW.iconst (v := 1) dMo_fits_40 (by decide) ?_
  refine QW.aload_n dMo_fits_41 rfl rfl ?_
  refine MW.getr (r' := 203) hX dMo_fits_42 fMo_43 rfl rfl (by cases sw <;> rfl) ?_
  refine QW.iconst (v := 3) dMo_fits_45 (by decide) ?_
  refine QW.iload_n dMo_fits_46 rfl rfl ?_
  refine QW.imul dMo_fits_47 ?_
  refine QW.iload_n dMo_fits_48 rfl rfl ?_
  refine QW.iadd dMo_fits_49 ?_
  refine MW.iald hX dMo_fits_50 rfl h1.1 (rep_get h1.2) ?_
  exact MW.calV (as := [.int 1, .int (mem 203 (Int32.toNatClampNeg ((3 * a2) + a3)))]) (rest := [.int s2, .int s1, .ref 193]) hX dMo_fits_51 eMo_node lMo_250 iMo_node vMo_node rfl rfl rfl rfl rfl rfl (Nat.le_of_ble_eq_true rfl) rfl k2
theorem bMo_fits_54 {a1 : Int32} {a2 : Int32} {a3 : Int32} {s3 : Int32} {s2 : Int32} {s1 : Int32} (hX : X.length = 13) (k1 : QW d mMo_goWith 0 (qen 5 [.ref 193, .int s1, .int s2, .int s3]) [] (hpo X mem sw o e) (qcl d mMo_fits 54 57 (lMo_fits_57 a1 a2 a3) [] P)) : QW (d + 1) mMo_fits 54 (lMo_fits_54 a1 a2 a3) [.int s3, .int s2, .int s1, .ref 193] (hpo X mem sw o e) P := by
  show QW (d + 1) mMo_fits 54 [.val (.ref 193), .val (.int a1), .val (.int a2), .val (.int a3), .unset, .unset] [.int s3, .int s2, .int s1, .ref 193] (hpo X mem sw o e) P
  exact MW.calV (as := [.int s1, .int s2, .int s3]) (rest := []) hX dMo_fits_54 eMo_goWith lMo_274 iMo_goWith vMo_goWith rfl rfl rfl rfl rfl rfl (Nat.le_of_ble_eq_true rfl) rfl k1
theorem bMo_fits_57 {a1 : Int32} {a2 : Int32} {a3 : Int32} {s0 : Int32} (hX : X.length = 13) (k1 : (¬ s0 = 0) → QW d mMo_fits 12 (lMo_fits_12 a1 a2 (a3 + 1)) [] (hpo X mem sw o e) P) (k2 : (s0 = 0) → P (.inl (some (.int 0)), (hpo X mem sw o e))) : QW d mMo_fits 57 (lMo_fits_57 a1 a2 a3) [.int s0] (hpo X mem sw o e) P := by
  show QW d mMo_fits 57 [.val (.ref 193), .val (.int a1), .val (.int a2), .val (.int a3), .unset, .unset] [.int s0] (hpo X mem sw o e) P
  refine QW.if_ne (tgt := 62) dMo_fits_57 (by decide) (fun z0 => ?_) (fun z0 => ?_)
  · refine MW.iinc (c := 1) (ls' := [.val (.ref 193), .val (.int a1), .val (.int a2), .val (.int (a3 + 1)), .unset, .unset]) dMo_fits_62 (by decide) rfl rfl ?_
    refine QW.goto (tgt := 12) dMo_fits_65 (by decide) ?_
    exact (k1 z0)
  · refine QW.iconst (v := 0) dMo_fits_60 (by decide) ?_
    exact QW.iret dMo_fits_61 rfl rfl (k2 z0)
theorem bMo_fits_73 {a1 : Int32} {a2 : Int32} {a3 : Int32} {w4 : Slot} {w5 : Slot} (hX : X.length = 13) (hw4 : qfr w4) (hw5 : qfr w5) (h1 : inx a1 15) (k2 : (((6 * a1) + (mem 207 (Int32.toNatClampNeg a1))) ≤ a3) → QW (d + 1) mMo_fits 173 (lMo_fits_173 a1 a2 (6 * a2) w4 w5) [] (hpo X mem sw o e) P) (k3 : (¬ ((6 * a1) + (mem 207 (Int32.toNatClampNeg a1))) ≤ a3) → QW d mMo_isOpen 0 (qen 3 [.ref 193, .int 0, .int a3]) [] (hpo X mem sw o e) (qcl d mMo_fits 91 94 (lMo_fits_94 a1 a2 a3 w4 w5) [] P)) : QW (d + 1) mMo_fits 73 (lMo_fits_73 a1 a2 a3 w4 w5) [] (hpo X mem sw o e) P := by
  show QW (d + 1) mMo_fits 73 [.val (.ref 193), .val (.int a1), .val (.int a2), .val (.int a3), w4, w5] [] (hpo X mem sw o e) P
  refine QW.iload_n dMo_fits_73 rfl rfl ?_
  refine QW.bipush (v := 6) dMo_fits_74 (by decide) ?_
  refine QW.iload_n dMo_fits_76 rfl rfl ?_
  refine QW.imul dMo_fits_77 ?_
  refine QW.aload_n dMo_fits_78 rfl rfl ?_
  refine MW.getr (r' := 207) hX dMo_fits_79 fMo_55 rfl rfl (by cases sw <;> rfl) ?_
  refine QW.iload_n dMo_fits_82 rfl rfl ?_
  refine MW.iald hX dMo_fits_83 rfl h1.1 (rep_get h1.2) ?_
  refine QW.iadd dMo_fits_84 ?_
  refine QW.icmp_ge (tgt := 168) dMo_fits_85 (by decide) (fun z0 => ?_) (fun z0 => ?_)
  · refine QW.bipush (v := 6) dMo_fits_168 (by decide) ?_
    refine QW.iload_n dMo_fits_170 rfl rfl ?_
    refine QW.imul dMo_fits_171 ?_
    refine QW.istore_n (ls' := [.val (.ref 193), .val (.int a1), .val (.int a2), .val (.int (6 * a2)), w4, w5]) dMo_fits_172 rfl rfl ?_
    exact (k2 z0)
  · refine QW.aload_n dMo_fits_88 rfl rfl ?_
    refine QW.iconst (v := 0) dMo_fits_89 (by decide) ?_
    refine QW.iload_n dMo_fits_90 rfl rfl ?_
    exact MW.calV (as := [.int 0, .int a3]) (rest := []) hX dMo_fits_91 eMo_isOpen lMo_271 iMo_isOpen vMo_isOpen rfl rfl rfl rfl rfl rfl (Nat.le_of_ble_eq_true rfl) rfl (k3 z0)
theorem bMo_fits_94 {a1 : Int32} {a2 : Int32} {a3 : Int32} {w4 : Slot} {w5 : Slot} {s0 : Int32} (hX : X.length = 13) (hw4 : qfr w4) (hw5 : qfr w5) (k1 : (¬ s0 = 0) → QW d mMo_fits 102 (lMo_fits_102 a1 a2 a3 w4 w5) [.int 0] (hpo X mem sw o e) P) (k2 : (s0 = 0) → QW d mMo_fits 102 (lMo_fits_102 a1 a2 a3 w4 w5) [.int 1] (hpo X mem sw o e) P) : QW d mMo_fits 94 (lMo_fits_94 a1 a2 a3 w4 w5) [.int s0] (hpo X mem sw o e) P := by
  show QW d mMo_fits 94 [.val (.ref 193), .val (.int a1), .val (.int a2), .val (.int a3), w4, w5] [.int s0] (hpo X mem sw o e) P
  refine QW.if_ne (tgt := 101) dMo_fits_94 (by decide) (fun z0 => ?_) (fun z0 => ?_)
  · refine QW.iconst (v := 0) dMo_fits_101 (by decide) ?_
    exact (k1 z0)
  · refine QW.iconst (v := 1) dMo_fits_97 (by decide) ?_
    refine QW.goto (tgt := 102) dMo_fits_98 (by decide) ?_
    exact (k2 z0)
theorem bMo_fits_102 {a1 : Int32} {a2 : Int32} {a3 : Int32} {w4 : Slot} {w5 : Slot} {s0 : Int32} (hX : X.length = 13) (hw4 : qfr w4) (hw5 : qfr w5) (k1 : QW d mMo_fits 110 (lMo_fits_110 a1 a2 a3 s0 (6 * a2)) [] (hpo X mem sw o e) P) : QW d mMo_fits 102 (lMo_fits_102 a1 a2 a3 w4 w5) [.int s0] (hpo X mem sw o e) P := by
  show QW d mMo_fits 102 [.val (.ref 193), .val (.int a1), .val (.int a2), .val (.int a3), w4, w5] [.int s0] (hpo X mem sw o e) P
  refine QW.istore (ls' := [.val (.ref 193), .val (.int a1), .val (.int a2), .val (.int a3), .val (.int s0), w5]) dMo_fits_102 (by rcases hw4 with z | ⟨_, z⟩ | ⟨_, z⟩ <;> subst z <;> rfl) ?_
  refine QW.bipush (v := 6) dMo_fits_104 (by decide) ?_
  refine QW.iload_n dMo_fits_106 rfl rfl ?_
  refine QW.imul dMo_fits_107 ?_
  refine QW.istore (ls' := [.val (.ref 193), .val (.int a1), .val (.int a2), .val (.int a3), .val (.int s0), .val (.int (6 * a2))]) dMo_fits_108 (by rcases hw5 with z | ⟨_, z⟩ | ⟨_, z⟩ <;> subst z <;> rfl) ?_
  exact k1
theorem bMo_fits_110 {a1 : Int32} {a2 : Int32} {a3 : Int32} {a4 : Int32} {a5 : Int32} (hX : X.length = 13) (h1 : inx a2 15) (k2 : (((6 * a2) + (mem 207 (Int32.toNatClampNeg a2))) ≤ a5) → (¬ a4 = 0) → QW (d + 1) mMo_fits 73 (lMo_fits_73 a1 a2 (a3 + 1) (.val (.int a4)) (.val (.int a5))) [] (hpo X mem sw o e) P) (k3 : (((6 * a2) + (mem 207 (Int32.toNatClampNeg a2))) ≤ a5) → (a4 = 0) → P (.inl (some (.int 0)), (hpo X mem sw o e))) (k4 : (¬ ((6 * a2) + (mem 207 (Int32.toNatClampNeg a2))) ≤ a5) → (¬ a4 = 0) → QW (d + 1) mMo_fits 142 (lMo_fits_142 a1 a2 a3 a4 a5) [] (hpo X mem sw o e) P) (k5 : (¬ ((6 * a2) + (mem 207 (Int32.toNatClampNeg a2))) ≤ a5) → (a4 = 0) → QW d mMo_sameLess 0 (qen 4 [.ref 193, .int a1, .int a3, .int a5]) [] (hpo X mem sw o e) (qcl d mMo_fits 136 139 (lMo_fits_139 a1 a2 a3 a4 a5) [] P)) : QW (d + 1) mMo_fits 110 (lMo_fits_110 a1 a2 a3 a4 a5) [] (hpo X mem sw o e) P := by
  show QW (d + 1) mMo_fits 110 [.val (.ref 193), .val (.int a1), .val (.int a2), .val (.int a3), .val (.int a4), .val (.int a5)] [] (hpo X mem sw o e) P
  refine QW.iload dMo_fits_110 rfl ?_
  refine QW.bipush (v := 6) dMo_fits_112 (by decide) ?_
  refine QW.iload_n dMo_fits_114 rfl rfl ?_
  refine QW.imul dMo_fits_115 ?_
  refine QW.aload_n dMo_fits_116 rfl rfl ?_
  refine MW.getr (r' := 207) hX dMo_fits_117 fMo_55 rfl rfl (by cases sw <;> rfl) ?_
  refine QW.iload_n dMo_fits_120 rfl rfl ?_
  refine MW.iald hX dMo_fits_121 rfl h1.1 (rep_get h1.2) ?_
  refine QW.iadd dMo_fits_122 ?_
  refine QW.icmp_ge (tgt := 155) dMo_fits_123 (by decide) (fun z0 => ?_) (fun z0 => ?_)
  · refine QW.iload dMo_fits_155 rfl ?_
    refine QW.if_ne (tgt := 162) dMo_fits_157 (by decide) (fun z1 => ?_) (fun z1 => ?_)
    · refine MW.iinc (c := 1) (ls' := [.val (.ref 193), .val (.int a1), .val (.int a2), .val (.int (a3 + 1)), .val (.int a4), .val (.int a5)]) dMo_fits_162 (by decide) rfl rfl ?_
      refine QW.goto (tgt := 73) dMo_fits_165 (by decide) ?_
      exact (k2 z0 z1)
    · refine QW.iconst (v := 0) dMo_fits_160 (by decide) ?_
      exact QW.iret dMo_fits_161 rfl rfl (k3 z0 z1)
  · refine QW.iload dMo_fits_126 rfl ?_
    refine QW.if_ne (tgt := 142) dMo_fits_128 (by decide) (fun z1 => ?_) (fun z1 => ?_)
    · exact (k4 z0 z1)
    · refine QW.aload_n dMo_fits_131 rfl rfl ?_
      refine QW.iload_n dMo_fits_132 rfl rfl ?_
      refine QW.iload_n dMo_fits_133 rfl rfl ?_
      refine QW.iload dMo_fits_134 rfl ?_
      exact MW.calV (as := [.int a1, .int a3, .int a5]) (rest := []) hX dMo_fits_136 eMo_sameLess lMo_281 iMo_sameLess vMo_sameLess rfl rfl rfl rfl rfl rfl (Nat.le_of_ble_eq_true rfl) rfl (k5 z0 z1)
theorem bMo_fits_139 {a1 : Int32} {a2 : Int32} {a3 : Int32} {a4 : Int32} {a5 : Int32} {s0 : Int32} (hX : X.length = 13) (k1 : (s0 = 0) → QW d mMo_fits 147 (lMo_fits_147 a1 a2 a3 a4 a5) [.int 0] (hpo X mem sw o e) P) (k2 : (¬ s0 = 0) → QW d mMo_fits 142 (lMo_fits_142 a1 a2 a3 a4 a5) [] (hpo X mem sw o e) P) : QW d mMo_fits 139 (lMo_fits_139 a1 a2 a3 a4 a5) [.int s0] (hpo X mem sw o e) P := by
  show QW d mMo_fits 139 [.val (.ref 193), .val (.int a1), .val (.int a2), .val (.int a3), .val (.int a4), .val (.int a5)] [.int s0] (hpo X mem sw o e) P
  refine QW.if_eq (tgt := 146) dMo_fits_139 (by decide) (fun z0 => ?_) (fun z0 => ?_)
  · refine QW.iconst (v := 0) dMo_fits_146 (by decide) ?_
    exact (k1 z0)
  · exact (k2 z0)
theorem bMo_fits_142 {a1 : Int32} {a2 : Int32} {a3 : Int32} {a4 : Int32} {a5 : Int32} (hX : X.length = 13) (k1 : QW d mMo_fits 147 (lMo_fits_147 a1 a2 a3 a4 a5) [.int 1] (hpo X mem sw o e) P) : QW d mMo_fits 142 (lMo_fits_142 a1 a2 a3 a4 a5) [] (hpo X mem sw o e) P := by
  show QW d mMo_fits 142 [.val (.ref 193), .val (.int a1), .val (.int a2), .val (.int a3), .val (.int a4), .val (.int a5)] [] (hpo X mem sw o e) P
  refine QW.iconst (v := 1) dMo_fits_142 (by decide) ?_
  refine QW.goto (tgt := 147) dMo_fits_143 (by decide) ?_
  exact k1
theorem bMo_fits_147 {a1 : Int32} {a2 : Int32} {a3 : Int32} {a4 : Int32} {a5 : Int32} {s0 : Int32} (hX : X.length = 13) (k1 : QW d mMo_fits 110 (lMo_fits_110 a1 a2 a3 s0 (a5 + 1)) [] (hpo X mem sw o e) P) : QW d mMo_fits 147 (lMo_fits_147 a1 a2 a3 a4 a5) [.int s0] (hpo X mem sw o e) P := by
  show QW d mMo_fits 147 [.val (.ref 193), .val (.int a1), .val (.int a2), .val (.int a3), .val (.int a4), .val (.int a5)] [.int s0] (hpo X mem sw o e) P
  refine QW.istore (ls' := [.val (.ref 193), .val (.int a1), .val (.int a2), .val (.int a3), .val (.int s0), .val (.int a5)]) dMo_fits_147 rfl ?_
  refine MW.iinc (c := 1) (ls' := [.val (.ref 193), .val (.int a1), .val (.int a2), .val (.int a3), .val (.int s0), .val (.int (a5 + 1))]) dMo_fits_149 (by decide) rfl rfl ?_
  refine QW.goto (tgt := 110) dMo_fits_152 (by decide) ?_
  exact k1
theorem bMo_fits_173 {a1 : Int32} {a2 : Int32} {a3 : Int32} {w4 : Slot} {w5 : Slot} (hX : X.length = 13) (hw4 : qfr w4) (hw5 : qfr w5) (h1 : inx a2 15) (k2 : (((6 * a2) + (mem 207 (Int32.toNatClampNeg a2))) ≤ a3) → P (.inl (some (.int 1)), (hpo X mem sw o e))) (k3 : (¬ ((6 * a2) + (mem 207 (Int32.toNatClampNeg a2))) ≤ a3) → QW d mMo_isOpen 0 (qen 3 [.ref 193, .int 1, .int a3]) [] (hpo X mem sw o e) (qcl d mMo_fits 191 194 (lMo_fits_194 a1 a2 a3 w4 w5) [] P)) : QW (d + 1) mMo_fits 173 (lMo_fits_173 a1 a2 a3 w4 w5) [] (hpo X mem sw o e) P := by
  show QW (d + 1) mMo_fits 173 [.val (.ref 193), .val (.int a1), .val (.int a2), .val (.int a3), w4, w5] [] (hpo X mem sw o e) P
  refine QW.iload_n dMo_fits_173 rfl rfl ?_
  refine QW.bipush (v := 6) dMo_fits_174 (by decide) ?_
  refine QW.iload_n dMo_fits_176 rfl rfl ?_
  refine QW.imul dMo_fits_177 ?_
  refine QW.aload_n dMo_fits_178 rfl rfl ?_
  refine MW.getr (r' := 207) hX dMo_fits_179 fMo_55 rfl rfl (by cases sw <;> rfl) ?_
  refine QW.iload_n dMo_fits_182 rfl rfl ?_
  refine MW.iald hX dMo_fits_183 rfl h1.1 (rep_get h1.2) ?_
  refine QW.iadd dMo_fits_184 ?_
  refine QW.icmp_ge (tgt := 278) dMo_fits_185 (by decide) (fun z0 => ?_) (fun z0 => ?_)
  · refine QW.iconst (v := 1) dMo_fits_278 (by decide) ?_
    exact QW.iret dMo_fits_279 rfl rfl (k2 z0)
  · refine QW.aload_n dMo_fits_188 rfl rfl ?_
    refine QW.iconst (v := 1) dMo_fits_189 (by decide) ?_
    refine QW.iload_n dMo_fits_190 rfl rfl ?_
    exact MW.calV (as := [.int 1, .int a3]) (rest := []) hX dMo_fits_191 eMo_isOpen lMo_271 iMo_isOpen vMo_isOpen rfl rfl rfl rfl rfl rfl (Nat.le_of_ble_eq_true rfl) rfl (k3 z0)
theorem bMo_fits_194 {a1 : Int32} {a2 : Int32} {a3 : Int32} {w4 : Slot} {w5 : Slot} {s0 : Int32} (hX : X.length = 13) (hw4 : qfr w4) (hw5 : qfr w5) (k1 : (¬ s0 = 0) → QW d mMo_fits 202 (lMo_fits_202 a1 a2 a3 w4 w5) [.int 0] (hpo X mem sw o e) P) (k2 : (s0 = 0) → QW d mMo_fits 202 (lMo_fits_202 a1 a2 a3 w4 w5) [.int 1] (hpo X mem sw o e) P) : QW d mMo_fits 194 (lMo_fits_194 a1 a2 a3 w4 w5) [.int s0] (hpo X mem sw o e) P := by
  show QW d mMo_fits 194 [.val (.ref 193), .val (.int a1), .val (.int a2), .val (.int a3), w4, w5] [.int s0] (hpo X mem sw o e) P
  refine QW.if_ne (tgt := 201) dMo_fits_194 (by decide) (fun z0 => ?_) (fun z0 => ?_)
  · refine QW.iconst (v := 0) dMo_fits_201 (by decide) ?_
    exact (k1 z0)
  · refine QW.iconst (v := 1) dMo_fits_197 (by decide) ?_
    refine QW.goto (tgt := 202) dMo_fits_198 (by decide) ?_
    exact (k2 z0)
theorem bMo_fits_202 {a1 : Int32} {a2 : Int32} {a3 : Int32} {w4 : Slot} {w5 : Slot} {s0 : Int32} (hX : X.length = 13) (hw4 : qfr w4) (hw5 : qfr w5) (k1 : QW d mMo_fits 210 (lMo_fits_210 a1 a2 a3 s0 (6 * a1)) [] (hpo X mem sw o e) P) : QW d mMo_fits 202 (lMo_fits_202 a1 a2 a3 w4 w5) [.int s0] (hpo X mem sw o e) P := by
  show QW d mMo_fits 202 [.val (.ref 193), .val (.int a1), .val (.int a2), .val (.int a3), w4, w5] [.int s0] (hpo X mem sw o e) P
  refine QW.istore (ls' := [.val (.ref 193), .val (.int a1), .val (.int a2), .val (.int a3), .val (.int s0), w5]) dMo_fits_202 (by rcases hw4 with z | ⟨_, z⟩ | ⟨_, z⟩ <;> subst z <;> rfl) ?_
  refine QW.bipush (v := 6) dMo_fits_204 (by decide) ?_
  refine QW.iload_n dMo_fits_206 rfl rfl ?_
  refine QW.imul dMo_fits_207 ?_
  refine QW.istore (ls' := [.val (.ref 193), .val (.int a1), .val (.int a2), .val (.int a3), .val (.int s0), .val (.int (6 * a1))]) dMo_fits_208 (by rcases hw5 with z | ⟨_, z⟩ | ⟨_, z⟩ <;> subst z <;> rfl) ?_
  exact k1
theorem bMo_fits_210 {a1 : Int32} {a2 : Int32} {a3 : Int32} {a4 : Int32} {a5 : Int32} (hX : X.length = 13) (h1 : inx a1 15) (k2 : (((6 * a1) + (mem 207 (Int32.toNatClampNeg a1))) ≤ a5) → (¬ a4 = 0) → QW (d + 1) mMo_fits 173 (lMo_fits_173 a1 a2 (a3 + 1) (.val (.int a4)) (.val (.int a5))) [] (hpo X mem sw o e) P) (k3 : (((6 * a1) + (mem 207 (Int32.toNatClampNeg a1))) ≤ a5) → (a4 = 0) → P (.inl (some (.int 0)), (hpo X mem sw o e))) (k4 : (¬ ((6 * a1) + (mem 207 (Int32.toNatClampNeg a1))) ≤ a5) → (¬ a4 = 0) → QW (d + 1) mMo_fits 252 (lMo_fits_252 a1 a2 a3 a4 a5) [] (hpo X mem sw o e) P) (k5 : (¬ ((6 * a1) + (mem 207 (Int32.toNatClampNeg a1))) ≤ a5) → (a4 = 0) → QW d mMo_isOpen 0 (qen 3 [.ref 193, .int 0, .int a5]) [] (hpo X mem sw o e) (qcl d mMo_fits 235 238 (lMo_fits_238 a1 a2 a3 a4 a5) [] P)) : QW (d + 1) mMo_fits 210 (lMo_fits_210 a1 a2 a3 a4 a5) [] (hpo X mem sw o e) P := by
  show QW (d + 1) mMo_fits 210 [.val (.ref 193), .val (.int a1), .val (.int a2), .val (.int a3), .val (.int a4), .val (.int a5)] [] (hpo X mem sw o e) P
  refine QW.iload dMo_fits_210 rfl ?_
  refine QW.bipush (v := 6) dMo_fits_212 (by decide) ?_
  refine QW.iload_n dMo_fits_214 rfl rfl ?_
  refine QW.imul dMo_fits_215 ?_
  refine QW.aload_n dMo_fits_216 rfl rfl ?_
  refine MW.getr (r' := 207) hX dMo_fits_217 fMo_55 rfl rfl (by cases sw <;> rfl) ?_
  refine QW.iload_n dMo_fits_220 rfl rfl ?_
  refine MW.iald hX dMo_fits_221 rfl h1.1 (rep_get h1.2) ?_
  refine QW.iadd dMo_fits_222 ?_
  refine QW.icmp_ge (tgt := 265) dMo_fits_223 (by decide) (fun z0 => ?_) (fun z0 => ?_)
  · refine QW.iload dMo_fits_265 rfl ?_
    refine QW.if_ne (tgt := 272) dMo_fits_267 (by decide) (fun z1 => ?_) (fun z1 => ?_)
    · refine MW.iinc (c := 1) (ls' := [.val (.ref 193), .val (.int a1), .val (.int a2), .val (.int (a3 + 1)), .val (.int a4), .val (.int a5)]) dMo_fits_272 (by decide) rfl rfl ?_
      refine QW.goto (tgt := 173) dMo_fits_275 (by decide) ?_
      exact (k2 z0 z1)
    · refine QW.iconst (v := 0) dMo_fits_270 (by decide) ?_
      exact QW.iret dMo_fits_271 rfl rfl (k3 z0 z1)
  · refine QW.iload dMo_fits_226 rfl ?_
    refine QW.if_ne (tgt := 252) dMo_fits_228 (by decide) (fun z1 => ?_) (fun z1 => ?_)
    · exact (k4 z0 z1)
    · refine QW.aload_n dMo_fits_231 rfl rfl ?_
      refine QW.iconst (v := 0) dMo_fits_232 (by decide) ?_
      refine QW.iload dMo_fits_233 rfl ?_
      exact MW.calV (as := [.int 0, .int a5]) (rest := []) hX dMo_fits_235 eMo_isOpen lMo_271 iMo_isOpen vMo_isOpen rfl rfl rfl rfl rfl rfl (Nat.le_of_ble_eq_true rfl) rfl (k5 z0 z1)
theorem bMo_fits_238 {a1 : Int32} {a2 : Int32} {a3 : Int32} {a4 : Int32} {a5 : Int32} {s0 : Int32} (hX : X.length = 13) (k1 : (s0 = 0) → QW (d + 1) mMo_fits 256 (lMo_fits_256 a1 a2 a3 a4 a5) [] (hpo X mem sw o e) P) (k2 : (¬ s0 = 0) → QW d mMo_sameLess 0 (qen 4 [.ref 193, .int a1, .int a5, .int a3]) [] (hpo X mem sw o e) (qcl d mMo_fits 246 249 (lMo_fits_249 a1 a2 a3 a4 a5) [] P)) : QW (d + 1) mMo_fits 238 (lMo_fits_238 a1 a2 a3 a4 a5) [.int s0] (hpo X mem sw o e) P := by
  show QW (d + 1) mMo_fits 238 [.val (.ref 193), .val (.int a1), .val (.int a2), .val (.int a3), .val (.int a4), .val (.int a5)] [.int s0] (hpo X mem sw o e) P
  refine QW.if_eq (tgt := 256) dMo_fits_238 (by decide) (fun z0 => ?_) (fun z0 => ?_)
  · exact (k1 z0)
  · refine QW.aload_n dMo_fits_241 rfl rfl ?_
    refine QW.iload_n dMo_fits_242 rfl rfl ?_
    refine QW.iload dMo_fits_243 rfl ?_
    refine QW.iload_n dMo_fits_245 rfl rfl ?_
    exact MW.calV (as := [.int a1, .int a5, .int a3]) (rest := []) hX dMo_fits_246 eMo_sameLess lMo_281 iMo_sameLess vMo_sameLess rfl rfl rfl rfl rfl rfl (Nat.le_of_ble_eq_true rfl) rfl (k2 z0)
theorem bMo_fits_249 {a1 : Int32} {a2 : Int32} {a3 : Int32} {a4 : Int32} {a5 : Int32} {s0 : Int32} (hX : X.length = 13) (k1 : (s0 = 0) → QW d mMo_fits 256 (lMo_fits_256 a1 a2 a3 a4 a5) [] (hpo X mem sw o e) P) (k2 : (¬ s0 = 0) → QW d mMo_fits 252 (lMo_fits_252 a1 a2 a3 a4 a5) [] (hpo X mem sw o e) P) : QW d mMo_fits 249 (lMo_fits_249 a1 a2 a3 a4 a5) [.int s0] (hpo X mem sw o e) P := by
  show QW d mMo_fits 249 [.val (.ref 193), .val (.int a1), .val (.int a2), .val (.int a3), .val (.int a4), .val (.int a5)] [.int s0] (hpo X mem sw o e) P
  refine QW.if_eq (tgt := 256) dMo_fits_249 (by decide) (fun z0 => ?_) (fun z0 => ?_)
  · exact (k1 z0)
  · exact (k2 z0)
theorem bMo_fits_252 {a1 : Int32} {a2 : Int32} {a3 : Int32} {a4 : Int32} {a5 : Int32} (hX : X.length = 13) (k1 : QW d mMo_fits 257 (lMo_fits_257 a1 a2 a3 a4 a5) [.int 1] (hpo X mem sw o e) P) : QW d mMo_fits 252 (lMo_fits_252 a1 a2 a3 a4 a5) [] (hpo X mem sw o e) P := by
  show QW d mMo_fits 252 [.val (.ref 193), .val (.int a1), .val (.int a2), .val (.int a3), .val (.int a4), .val (.int a5)] [] (hpo X mem sw o e) P
  refine QW.iconst (v := 1) dMo_fits_252 (by decide) ?_
  refine QW.goto (tgt := 257) dMo_fits_253 (by decide) ?_
  exact k1
theorem bMo_fits_256 {a1 : Int32} {a2 : Int32} {a3 : Int32} {a4 : Int32} {a5 : Int32} (hX : X.length = 13) (k1 : QW d mMo_fits 257 (lMo_fits_257 a1 a2 a3 a4 a5) [.int 0] (hpo X mem sw o e) P) : QW d mMo_fits 256 (lMo_fits_256 a1 a2 a3 a4 a5) [] (hpo X mem sw o e) P := by
  show QW d mMo_fits 256 [.val (.ref 193), .val (.int a1), .val (.int a2), .val (.int a3), .val (.int a4), .val (.int a5)] [] (hpo X mem sw o e) P
  refine QW.iconst (v := 0) dMo_fits_256 (by decide) ?_
  exact k1
theorem bMo_fits_257 {a1 : Int32} {a2 : Int32} {a3 : Int32} {a4 : Int32} {a5 : Int32} {s0 : Int32} (hX : X.length = 13) (k1 : QW d mMo_fits 210 (lMo_fits_210 a1 a2 a3 s0 (a5 + 1)) [] (hpo X mem sw o e) P) : QW d mMo_fits 257 (lMo_fits_257 a1 a2 a3 a4 a5) [.int s0] (hpo X mem sw o e) P := by
  show QW d mMo_fits 257 [.val (.ref 193), .val (.int a1), .val (.int a2), .val (.int a3), .val (.int a4), .val (.int a5)] [.int s0] (hpo X mem sw o e) P
  refine QW.istore (ls' := [.val (.ref 193), .val (.int a1), .val (.int a2), .val (.int a3), .val (.int s0), .val (.int a5)]) dMo_fits_257 rfl ?_
  refine MW.iinc (c := 1) (ls' := [.val (.ref 193), .val (.int a1), .val (.int a2), .val (.int a3), .val (.int s0), .val (.int (a5 + 1))]) dMo_fits_259 (by decide) rfl rfl ?_
  refine QW.goto (tgt := 210) dMo_fits_262 (by decide) ?_
  exact k1
theorem dMo_isPairing_0 : decode mMo_isPairing.2.1 0 = .ok (.iconst 0, 1) := by decide +kernel
theorem dMo_isPairing_1 : decode mMo_isPairing.2.1 1 = .ok (.istore 4, 2) := by decide +kernel
theorem dMo_isPairing_3 : decode mMo_isPairing.2.1 3 = .ok (.iconst 1, 1) := by decide +kernel
theorem dMo_isPairing_4 : decode mMo_isPairing.2.1 4 = .ok (.istore 5, 2) := by decide +kernel
theorem dMo_isPairing_6 : decode mMo_isPairing.2.1 6 = .ok (.iconst 0, 1) := by decide +kernel
theorem dMo_isPairing_7 : decode mMo_isPairing.2.1 7 = .ok (.istore 6, 2) := by decide +kernel
theorem dMo_isPairing_9 : decode mMo_isPairing.2.1 9 = .ok (.iload 6, 2) := by decide +kernel
theorem dMo_isPairing_11 : decode mMo_isPairing.2.1 11 = .ok (.aload_n 0, 1) := by decide +kernel
theorem dMo_isPairing_12 : decode mMo_isPairing.2.1 12 = .ok (.getfield 46, 3) := by decide +kernel
theorem dMo_isPairing_15 : decode mMo_isPairing.2.1 15 = .ok (.iload_n 2, 1) := by decide +kernel
theorem dMo_isPairing_16 : decode mMo_isPairing.2.1 16 = .ok (.iaload, 1) := by decide +kernel
theorem dMo_isPairing_17 : decode mMo_isPairing.2.1 17 = .ok (.if_icmp .ge 142, 3) := by decide +kernel
theorem dMo_isPairing_20 : decode mMo_isPairing.2.1 20 = .ok (.iload 5, 2) := by decide +kernel
theorem dMo_isPairing_22 : decode mMo_isPairing.2.1 22 = .ok (.ifCond .eq 137, 3) := by decide +kernel
theorem dMo_isPairing_25 : decode mMo_isPairing.2.1 25 = .ok (.aload_n 0, 1) := by decide +kernel
theorem dMo_isPairing_26 : decode mMo_isPairing.2.1 26 = .ok (.getfield 100, 3) := by decide +kernel
theorem dMo_isPairing_29 : decode mMo_isPairing.2.1 29 = .ok (.iload 6, 2) := by decide +kernel
theorem dMo_isPairing_31 : decode mMo_isPairing.2.1 31 = .ok (.iaload, 1) := by decide +kernel
theorem dMo_isPairing_32 : decode mMo_isPairing.2.1 32 = .ok (.iload 6, 2) := by decide +kernel
theorem dMo_isPairing_34 : decode mMo_isPairing.2.1 34 = .ok (.if_icmp .ne 101, 3) := by decide +kernel
theorem dMo_isPairing_37 : decode mMo_isPairing.2.1 37 = .ok (.iload_n 1, 1) := by decide +kernel
theorem dMo_isPairing_38 : decode mMo_isPairing.2.1 38 = .ok (.iconst 2, 1) := by decide +kernel
theorem dMo_isPairing_39 : decode mMo_isPairing.2.1 39 = .ok (.iload 6, 2) := by decide +kernel
theorem dMo_isPairing_41 : decode mMo_isPairing.2.1 41 = .ok (.imul, 1) := by decide +kernel
theorem dMo_isPairing_42 : decode mMo_isPairing.2.1 42 = .ok (.ishr, 1) := by decide +kernel
theorem dMo_isPairing_43 : decode mMo_isPairing.2.1 43 = .ok (.iconst 3, 1) := by decide +kernel
theorem dMo_isPairing_44 : decode mMo_isPairing.2.1 44 = .ok (.iand, 1) := by decide +kernel
theorem dMo_isPairing_45 : decode mMo_isPairing.2.1 45 = .ok (.istore 7, 2) := by decide +kernel
theorem dMo_isPairing_47 : decode mMo_isPairing.2.1 47 = .ok (.iload 7, 2) := by decide +kernel
theorem dMo_isPairing_49 : decode mMo_isPairing.2.1 49 = .ok (.aload_n 0, 1) := by decide +kernel
theorem dMo_isPairing_50 : decode mMo_isPairing.2.1 50 = .ok (.getfield 46, 3) := by decide +kernel
theorem dMo_isPairing_53 : decode mMo_isPairing.2.1 53 = .ok (.iload_n 3, 1) := by decide +kernel
theorem dMo_isPairing_54 : decode mMo_isPairing.2.1 54 = .ok (.iaload, 1) := by decide +kernel
theorem dMo_isPairing_55 : decode mMo_isPairing.2.1 55 = .ok (.if_icmp .ge 56, 3) := by decide +kernel
theorem dMo_isPairing_58 : decode mMo_isPairing.2.1 58 = .ok (.aload_n 0, 1) := by decide +kernel
theorem dMo_isPairing_59 : decode mMo_isPairing.2.1 59 = .ok (.getfield 100, 3) := by decide +kernel
theorem dMo_isPairing_62 : decode mMo_isPairing.2.1 62 = .ok (.iconst 4, 1) := by decide +kernel
theorem dMo_isPairing_63 : decode mMo_isPairing.2.1 63 = .ok (.iload 7, 2) := by decide +kernel
theorem dMo_isPairing_65 : decode mMo_isPairing.2.1 65 = .ok (.iadd, 1) := by decide +kernel
theorem dMo_isPairing_66 : decode mMo_isPairing.2.1 66 = .ok (.iaload, 1) := by decide +kernel
theorem dMo_isPairing_67 : decode mMo_isPairing.2.1 67 = .ok (.iload 7, 2) := by decide +kernel
theorem dMo_isPairing_69 : decode mMo_isPairing.2.1 69 = .ok (.if_icmp .ne 42, 3) := by decide +kernel
theorem dMo_isPairing_72 : decode mMo_isPairing.2.1 72 = .ok (.aload_n 0, 1) := by decide +kernel
theorem dMo_isPairing_73 : decode mMo_isPairing.2.1 73 = .ok (.getfield 49, 3) := by decide +kernel
theorem dMo_isPairing_76 : decode mMo_isPairing.2.1 76 = .ok (.iconst 4, 1) := by decide +kernel
theorem dMo_isPairing_77 : decode mMo_isPairing.2.1 77 = .ok (.iload_n 3, 1) := by decide +kernel
theorem dMo_isPairing_78 : decode mMo_isPairing.2.1 78 = .ok (.imul, 1) := by decide +kernel
theorem dMo_isPairing_79 : decode mMo_isPairing.2.1 79 = .ok (.iload 7, 2) := by decide +kernel
theorem dMo_isPairing_81 : decode mMo_isPairing.2.1 81 = .ok (.iadd, 1) := by decide +kernel
theorem dMo_isPairing_82 : decode mMo_isPairing.2.1 82 = .ok (.iaload, 1) := by decide +kernel
theorem dMo_isPairing_83 : decode mMo_isPairing.2.1 83 = .ok (.aload_n 0, 1) := by decide +kernel
theorem dMo_isPairing_84 : decode mMo_isPairing.2.1 84 = .ok (.getfield 49, 3) := by decide +kernel
theorem dMo_isPairing_87 : decode mMo_isPairing.2.1 87 = .ok (.iconst 4, 1) := by decide +kernel
theorem dMo_isPairing_88 : decode mMo_isPairing.2.1 88 = .ok (.iload_n 2, 1) := by decide +kernel
theorem dMo_isPairing_89 : decode mMo_isPairing.2.1 89 = .ok (.imul, 1) := by decide +kernel
theorem dMo_isPairing_90 : decode mMo_isPairing.2.1 90 = .ok (.iload 6, 2) := by decide +kernel
theorem dMo_isPairing_92 : decode mMo_isPairing.2.1 92 = .ok (.iadd, 1) := by decide +kernel
theorem dMo_isPairing_93 : decode mMo_isPairing.2.1 93 = .ok (.iaload, 1) := by decide +kernel
theorem dMo_isPairing_94 : decode mMo_isPairing.2.1 94 = .ok (.if_icmp .ne 17, 3) := by decide +kernel
theorem dMo_isPairing_97 : decode mMo_isPairing.2.1 97 = .ok (.iload 4, 2) := by decide +kernel
theorem dMo_isPairing_99 : decode mMo_isPairing.2.1 99 = .ok (.iload 7, 2) := by decide +kernel
theorem dMo_isPairing_101 : decode mMo_isPairing.2.1 101 = .ok (.ishr, 1) := by decide +kernel
theorem dMo_isPairing_102 : decode mMo_isPairing.2.1 102 = .ok (.iconst 1, 1) := by decide +kernel
theorem dMo_isPairing_103 : decode mMo_isPairing.2.1 103 = .ok (.iand, 1) := by decide +kernel
theorem dMo_isPairing_104 : decode mMo_isPairing.2.1 104 = .ok (.ifCond .ne 7, 3) := by decide +kernel
theorem dMo_isPairing_107 : decode mMo_isPairing.2.1 107 = .ok (.iconst 1, 1) := by decide +kernel
theorem dMo_isPairing_108 : decode mMo_isPairing.2.1 108 = .ok (.goto 4, 3) := by decide +kernel
theorem dMo_isPairing_111 : decode mMo_isPairing.2.1 111 = .ok (.iconst 0, 1) := by decide +kernel
theorem dMo_isPairing_112 : decode mMo_isPairing.2.1 112 = .ok (.istore 5, 2) := by decide +kernel
theorem dMo_isPairing_114 : decode mMo_isPairing.2.1 114 = .ok (.iload 4, 2) := by decide +kernel
theorem dMo_isPairing_116 : decode mMo_isPairing.2.1 116 = .ok (.iconst 1, 1) := by decide +kernel
theorem dMo_isPairing_117 : decode mMo_isPairing.2.1 117 = .ok (.iload 7, 2) := by decide +kernel
theorem dMo_isPairing_119 : decode mMo_isPairing.2.1 119 = .ok (.ishl, 1) := by decide +kernel
theorem dMo_isPairing_120 : decode mMo_isPairing.2.1 120 = .ok (.ior, 1) := by decide +kernel
theorem dMo_isPairing_121 : decode mMo_isPairing.2.1 121 = .ok (.istore 4, 2) := by decide +kernel
theorem dMo_isPairing_123 : decode mMo_isPairing.2.1 123 = .ok (.aload_n 0, 1) := by decide +kernel
theorem dMo_isPairing_124 : decode mMo_isPairing.2.1 124 = .ok (.getfield 103, 3) := by decide +kernel
theorem dMo_isPairing_127 : decode mMo_isPairing.2.1 127 = .ok (.iload 6, 2) := by decide +kernel
theorem dMo_isPairing_129 : decode mMo_isPairing.2.1 129 = .ok (.iload 7, 2) := by decide +kernel
theorem dMo_isPairing_131 : decode mMo_isPairing.2.1 131 = .ok (.iastore, 1) := by decide +kernel
theorem dMo_isPairing_132 : decode mMo_isPairing.2.1 132 = .ok (.goto 21, 3) := by decide +kernel
theorem dMo_isPairing_135 : decode mMo_isPairing.2.1 135 = .ok (.iload_n 1, 1) := by decide +kernel
theorem dMo_isPairing_136 : decode mMo_isPairing.2.1 136 = .ok (.iconst 2, 1) := by decide +kernel
theorem dMo_isPairing_137 : decode mMo_isPairing.2.1 137 = .ok (.iload 6, 2) := by decide +kernel
theorem dMo_isPairing_139 : decode mMo_isPairing.2.1 139 = .ok (.imul, 1) := by decide +kernel
theorem dMo_isPairing_140 : decode mMo_isPairing.2.1 140 = .ok (.ishr, 1) := by decide +kernel
theorem dMo_isPairing_141 : decode mMo_isPairing.2.1 141 = .ok (.iconst 3, 1) := by decide +kernel
theorem dMo_isPairing_142 : decode mMo_isPairing.2.1 142 = .ok (.iand, 1) := by decide +kernel
theorem dMo_isPairing_143 : decode mMo_isPairing.2.1 143 = .ok (.ifCond .ne 7, 3) := by decide +kernel
theorem dMo_isPairing_146 : decode mMo_isPairing.2.1 146 = .ok (.iconst 1, 1) := by decide +kernel
theorem dMo_isPairing_147 : decode mMo_isPairing.2.1 147 = .ok (.goto 4, 3) := by decide +kernel
theorem dMo_isPairing_150 : decode mMo_isPairing.2.1 150 = .ok (.iconst 0, 1) := by decide +kernel
theorem dMo_isPairing_151 : decode mMo_isPairing.2.1 151 = .ok (.istore 5, 2) := by decide +kernel
theorem dMo_isPairing_153 : decode mMo_isPairing.2.1 153 = .ok (.iinc 6 1, 3) := by decide +kernel
theorem dMo_isPairing_156 : decode mMo_isPairing.2.1 156 = .ok (.goto (-147), 3) := by decide +kernel
theorem dMo_isPairing_159 : decode mMo_isPairing.2.1 159 = .ok (.iload 5, 2) := by decide +kernel
theorem dMo_isPairing_161 : decode mMo_isPairing.2.1 161 = .ok (.ireturn, 1) := by decide +kernel
def lMo_isPairing_9 (a1 : Int32) (a2 : Int32) (a3 : Int32) (a4 : Int32) (a5 : Int32) (a6 : Int32) (w7 : Slot) : List Slot := [.val (.ref 193), .val (.int a1), .val (.int a2), .val (.int a3), .val (.int a4), .val (.int a5), .val (.int a6), w7]
def lMo_isPairing_111 (a1 : Int32) (a2 : Int32) (a3 : Int32) (a4 : Int32) (a5 : Int32) (a6 : Int32) (a7 : Int32) : List Slot := [.val (.ref 193), .val (.int a1), .val (.int a2), .val (.int a3), .val (.int a4), .val (.int a5), .val (.int a6), .val (.int a7)]
def lMo_isPairing_112 (a1 : Int32) (a2 : Int32) (a3 : Int32) (a4 : Int32) (a5 : Int32) (a6 : Int32) (a7 : Int32) : List Slot := [.val (.ref 193), .val (.int a1), .val (.int a2), .val (.int a3), .val (.int a4), .val (.int a5), .val (.int a6), .val (.int a7)]
def lMo_isPairing_151 (a1 : Int32) (a2 : Int32) (a3 : Int32) (a4 : Int32) (a5 : Int32) (a6 : Int32) (w7 : Slot) : List Slot := [.val (.ref 193), .val (.int a1), .val (.int a2), .val (.int a3), .val (.int a4), .val (.int a5), .val (.int a6), w7]
def lMo_isPairing_159 (a1 : Int32) (a2 : Int32) (a3 : Int32) (a4 : Int32) (a5 : Int32) (a6 : Int32) (w7 : Slot) : List Slot := [.val (.ref 193), .val (.int a1), .val (.int a2), .val (.int a3), .val (.int a4), .val (.int a5), .val (.int a6), w7]
theorem bMo_isPairing_0 {a1 : Int32} {a2 : Int32} {a3 : Int32} (hX : X.length = 13) (k1 : QW d mMo_isPairing 9 (lMo_isPairing_9 a1 a2 a3 0 1 0 .unset) [] (hpo X mem sw o e) P) : QW d mMo_isPairing 0 (qen 8 [.ref 193, .int a1, .int a2, .int a3]) [] (hpo X mem sw o e) P := by
  show QW d mMo_isPairing 0 [.val (.ref 193), .val (.int a1), .val (.int a2), .val (.int a3), .unset, .unset, .unset, .unset] [] (hpo X mem sw o e) P
  refine QW.iconst (v := 0) dMo_isPairing_0 (by decide) ?_
  refine QW.istore (ls' := [.val (.ref 193), .val (.int a1), .val (.int a2), .val (.int a3), .val (.int 0), .unset, .unset, .unset]) dMo_isPairing_1 rfl ?_
  refine QW.iconst (v := 1) dMo_isPairing_3 (by decide) ?_
  refine QW.istore (ls' := [.val (.ref 193), .val (.int a1), .val (.int a2), .val (.int a3), .val (.int 0), .val (.int 1), .unset, .unset]) dMo_isPairing_4 rfl ?_
  refine QW.iconst (v := 0) dMo_isPairing_6 (by decide) ?_
  refine QW.istore (ls' := [.val (.ref 193), .val (.int a1), .val (.int a2), .val (.int a3), .val (.int 0), .val (.int 1), .val (.int 0), .unset]) dMo_isPairing_7 rfl ?_
  exact k1
theorem bMo_isPairing_9 {a1 : Int32} {a2 : Int32} {a3 : Int32} {a4 : Int32} {a5 : Int32} {a6 : Int32} {w7 : Slot} (hX : X.length = 13) (hw7 : qfr w7) (h1 : inx a2 15) (k2 : ((mem 204 (Int32.toNatClampNeg a2)) ≤ a6) → QW d mMo_isPairing 159 (lMo_isPairing_159 a1 a2 a3 a4 a5 a6 w7) [] (hpo X mem sw o e) P) (k3 : (¬ (mem 204 (Int32.toNatClampNeg a2)) ≤ a6) → (a5 = 0) → QW d mMo_isPairing 159 (lMo_isPairing_159 a1 a2 a3 a4 a5 a6 w7) [] (hpo X mem sw o e) P) (h4 : (¬ (mem 204 (Int32.toNatClampNeg a2)) ≤ a6) → (¬ a5 = 0) → inx a6 8) (k5 : (¬ (mem 204 (Int32.toNatClampNeg a2)) ≤ a6) → (¬ a5 = 0) → (¬ (mem 222 (Int32.toNatClampNeg a6)) = a6) → (¬ ((a1 >>> ((2 * a6) &&& 31)) &&& 3) = 0) → QW d mMo_isPairing 151 (lMo_isPairing_151 a1 a2 a3 a4 a5 a6 w7) [.int 0] (hpo X mem sw o e) P) (k6 : (¬ (mem 204 (Int32.toNatClampNeg a2)) ≤ a6) → (¬ a5 = 0) → (¬ (mem 222 (Int32.toNatClampNeg a6)) = a6) → (((a1 >>> ((2 * a6) &&& 31)) &&& 3) = 0) → QW d mMo_isPairing 151 (lMo_isPairing_151 a1 a2 a3 a4 a5 a6 w7) [.int 1] (hpo X mem sw o e) P) (h7 : (¬ (mem 204 (Int32.toNatClampNeg a2)) ≤ a6) → (¬ a5 = 0) → ((mem 222 (Int32.toNatClampNeg a6)) = a6) → inx a3 15) (k8 : (¬ (mem 204 (Int32.toNatClampNeg a2)) ≤ a6) → (¬ a5 = 0) → ((mem 222 (Int32.toNatClampNeg a6)) = a6) → ((mem 204 (Int32.toNatClampNeg a3)) ≤ ((a1 >>> ((2 * a6) &&& 31)) &&& 3)) → QW d mMo_isPairing 111 (lMo_isPairing_111 a1 a2 a3 a4 a5 a6 ((a1 >>> ((2 * a6) &&& 31)) &&& 3)) [] (hpo X mem sw o e) P) (h9 : (¬ (mem 204 (Int32.toNatClampNeg a2)) ≤ a6) → (¬ a5 = 0) → ((mem 222 (Int32.toNatClampNeg a6)) = a6) → (¬ (mem 204 (Int32.toNatClampNeg a3)) ≤ ((a1 >>> ((2 * a6) &&& 31)) &&& 3)) → inx (4 + ((a1 >>> ((2 * a6) &&& 31)) &&& 3)) 8) (k10 : (¬ (mem 204 (Int32.toNatClampNeg a2)) ≤ a6) → (¬ a5 = 0) → ((mem 222 (Int32.toNatClampNeg a6)) = a6) → (¬ (mem 204 (Int32.toNatClampNeg a3)) ≤ ((a1 >>> ((2 * a6) &&& 31)) &&& 3)) → (¬ (mem 222 (Int32.toNatClampNeg (4 + ((a1 >>> ((2 * a6) &&& 31)) &&& 3)))) = ((a1 >>> ((2 * a6) &&& 31)) &&& 3)) → QW d mMo_isPairing 111 (lMo_isPairing_111 a1 a2 a3 a4 a5 a6 ((a1 >>> ((2 * a6) &&& 31)) &&& 3)) [] (hpo X mem sw o e) P) (h11 : (¬ (mem 204 (Int32.toNatClampNeg a2)) ≤ a6) → (¬ a5 = 0) → ((mem 222 (Int32.toNatClampNeg a6)) = a6) → (¬ (mem 204 (Int32.toNatClampNeg a3)) ≤ ((a1 >>> ((2 * a6) &&& 31)) &&& 3)) → ((mem 222 (Int32.toNatClampNeg (4 + ((a1 >>> ((2 * a6) &&& 31)) &&& 3)))) = ((a1 >>> ((2 * a6) &&& 31)) &&& 3)) → inx ((4 * a3) + ((a1 >>> ((2 * a6) &&& 31)) &&& 3)) 60) (h12 : (¬ (mem 204 (Int32.toNatClampNeg a2)) ≤ a6) → (¬ a5 = 0) → ((mem 222 (Int32.toNatClampNeg a6)) = a6) → (¬ (mem 204 (Int32.toNatClampNeg a3)) ≤ ((a1 >>> ((2 * a6) &&& 31)) &&& 3)) → ((mem 222 (Int32.toNatClampNeg (4 + ((a1 >>> ((2 * a6) &&& 31)) &&& 3)))) = ((a1 >>> ((2 * a6) &&& 31)) &&& 3)) → inx ((4 * a2) + a6) 60) (k13 : (¬ (mem 204 (Int32.toNatClampNeg a2)) ≤ a6) → (¬ a5 = 0) → ((mem 222 (Int32.toNatClampNeg a6)) = a6) → (¬ (mem 204 (Int32.toNatClampNeg a3)) ≤ ((a1 >>> ((2 * a6) &&& 31)) &&& 3)) → ((mem 222 (Int32.toNatClampNeg (4 + ((a1 >>> ((2 * a6) &&& 31)) &&& 3)))) = ((a1 >>> ((2 * a6) &&& 31)) &&& 3)) → (¬ (mem 205 (Int32.toNatClampNeg ((4 * a3) + ((a1 >>> ((2 * a6) &&& 31)) &&& 3)))) = (mem 205 (Int32.toNatClampNeg ((4 * a2) + a6)))) → QW d mMo_isPairing 111 (lMo_isPairing_111 a1 a2 a3 a4 a5 a6 ((a1 >>> ((2 * a6) &&& 31)) &&& 3)) [] (hpo X mem sw o e) P) (k14 : (¬ (mem 204 (Int32.toNatClampNeg a2)) ≤ a6) → (¬ a5 = 0) → ((mem 222 (Int32.toNatClampNeg a6)) = a6) → (¬ (mem 204 (Int32.toNatClampNeg a3)) ≤ ((a1 >>> ((2 * a6) &&& 31)) &&& 3)) → ((mem 222 (Int32.toNatClampNeg (4 + ((a1 >>> ((2 * a6) &&& 31)) &&& 3)))) = ((a1 >>> ((2 * a6) &&& 31)) &&& 3)) → ((mem 205 (Int32.toNatClampNeg ((4 * a3) + ((a1 >>> ((2 * a6) &&& 31)) &&& 3)))) = (mem 205 (Int32.toNatClampNeg ((4 * a2) + a6)))) → (¬ ((a4 >>> (((a1 >>> ((2 * a6) &&& 31)) &&& 3) &&& 31)) &&& 1) = 0) → QW d mMo_isPairing 111 (lMo_isPairing_111 a1 a2 a3 a4 a5 a6 ((a1 >>> ((2 * a6) &&& 31)) &&& 3)) [] (hpo X mem sw o e) P) (k15 : (¬ (mem 204 (Int32.toNatClampNeg a2)) ≤ a6) → (¬ a5 = 0) → ((mem 222 (Int32.toNatClampNeg a6)) = a6) → (¬ (mem 204 (Int32.toNatClampNeg a3)) ≤ ((a1 >>> ((2 * a6) &&& 31)) &&& 3)) → ((mem 222 (Int32.toNatClampNeg (4 + ((a1 >>> ((2 * a6) &&& 31)) &&& 3)))) = ((a1 >>> ((2 * a6) &&& 31)) &&& 3)) → ((mem 205 (Int32.toNatClampNeg ((4 * a3) + ((a1 >>> ((2 * a6) &&& 31)) &&& 3)))) = (mem 205 (Int32.toNatClampNeg ((4 * a2) + a6)))) → (((a4 >>> (((a1 >>> ((2 * a6) &&& 31)) &&& 3) &&& 31)) &&& 1) = 0) → QW d mMo_isPairing 112 (lMo_isPairing_112 a1 a2 a3 a4 a5 a6 ((a1 >>> ((2 * a6) &&& 31)) &&& 3)) [.int 1] (hpo X mem sw o e) P) : QW d mMo_isPairing 9 (lMo_isPairing_9 a1 a2 a3 a4 a5 a6 w7) [] (hpo X mem sw o e) P := by
  show QW d mMo_isPairing 9 [.val (.ref 193), .val (.int a1), .val (.int a2), .val (.int a3), .val (.int a4), .val (.int a5), .val (.int a6), w7] [] (hpo X mem sw o e) P
  refine QW.iload dMo_isPairing_9 rfl ?_
  refine QW.aload_n dMo_isPairing_11 rfl rfl ?_
  refine MW.getr (r' := 204) hX dMo_isPairing_12 fMo_46 rfl rfl (by cases sw <;> rfl) ?_
  refine QW.iload_n dMo_isPairing_15 rfl rfl ?_
  refine MW.iald hX dMo_isPairing_16 rfl h1.1 (rep_get h1.2) ?_
  refine QW.icmp_ge (tgt := 159) dMo_isPairing_17 (by decide) (fun z0 => ?_) (fun z0 => ?_)
  · exact (k2 z0)
  · refine QW.iload dMo_isPairing_20 rfl ?_
    refine QW.if_eq (tgt := 159) dMo_isPairing_22 (by decide) (fun z1 => ?_) (fun z1 => ?_)
    · exact (k3 z0 z1)
    · refine QW.aload_n dMo_isPairing_25 rfl rfl ?_
      refine MW.getr (r' := 222) hX dMo_isPairing_26 fMo_100 rfl rfl (by cases sw <;> rfl) ?_
      refine QW.iload dMo_isPairing_29 rfl ?_
      refine MW.iald hX dMo_isPairing_31 rfl (h4 z0 z1).1 (rep_get (h4 z0 z1).2) ?_
      refine QW.iload dMo_isPairing_32 rfl ?_
      refine QW.icmp_ne (tgt := 135) dMo_isPairing_34 (by decide) (fun z2 => ?_) (fun z2 => ?_)
      · refine QW.iload_n dMo_isPairing_135 rfl rfl ?_
        refine QW.iconst (v := 2) dMo_isPairing_136 (by decide) ?_
        refine QW.iload dMo_isPairing_137 rfl ?_
        refine QW.imul dMo_isPairing_139 ?_
        refine QW.ishr dMo_isPairing_140 ?_
        refine QW.iconst (v := 3) dMo_isPairing_141 (by decide) ?_
        refine QW.iand dMo_isPairing_142 ?_
        refine QW.if_ne (tgt := 150) dMo_isPairing_143 (by decide) (fun z3 => ?_) (fun z3 => ?_)
        · refine QW.iconst (v := 0) dMo_isPairing_150 (by decide) ?_
          exact (k5 z0 z1 z2 z3)
        · refine QW.iconst (v := 1) dMo_isPairing_146 (by decide) ?_
          refine QW.goto (tgt := 151) dMo_isPairing_147 (by decide) ?_
          exact (k6 z0 z1 z2 z3)
      · refine QW.iload_n dMo_isPairing_37 rfl rfl ?_
        refine QW.iconst (v := 2) dMo_isPairing_38 (by decide) ?_
        refine QW.iload dMo_isPairing_39 rfl ?_
        refine QW.imul dMo_isPairing_41 ?_
        refine QW.ishr dMo_isPairing_42 ?_
        refine QW.iconst (v := 3) dMo_isPairing_43 (by decide) ?_
        refine QW.iand dMo_isPairing_44 ?_
        refine QW.istore (ls' := [.val (.ref 193), .val (.int a1), .val (.int a2), .val (.int a3), .val (.int a4), .val (.int a5), .val (.int a6), .val (.int ((a1 >>> ((2 * a6) &&& 31)) &&& 3))]) dMo_isPairing_45 (by rcases hw7 with z | ⟨_, z⟩ | ⟨_, z⟩ <;> subst z <;> rfl) ?_
        refine QW.iload dMo_isPairing_47 rfl ?_
        refine QW.aload_n dMo_isPairing_49 rfl rfl ?_
        refine MW.getr (r' := 204) hX dMo_isPairing_50 fMo_46 rfl rfl (by cases sw <;> rfl) ?_
        refine QW.iload_n dMo_isPairing_53 rfl rfl ?_
        refine MW.iald hX dMo_isPairing_54 rfl (h7 z0 z1 z2).1 (rep_get (h7 z0 z1 z2).2) ?_
        refine QW.icmp_ge (tgt := 111) dMo_isPairing_55 (by decide) (fun z3 => ?_) (fun z3 => ?_)
        · exact (k8 z0 z1 z2 z3)
        · refine QW.aload_n dMo_isPairing_58 rfl rfl ?_
          refine MW.getr (r' := 222) hX dMo_isPairing_59 fMo_100 rfl rfl (by cases sw <;> rfl) ?_
          refine QW.iconst (v := 4) dMo_isPairing_62 (by decide) ?_
          refine QW.iload dMo_isPairing_63 rfl ?_
          refine QW.iadd dMo_isPairing_65 ?_
          refine MW.iald hX dMo_isPairing_66 rfl (h9 z0 z1 z2 z3).1 (rep_get (h9 z0 z1 z2 z3).2) ?_
          refine QW.iload dMo_isPairing_67 rfl ?_
          refine QW.icmp_ne (tgt := 111) dMo_isPairing_69 (by decide) (fun z4 => ?_) (fun z4 => ?_)
          · exact (k10 z0 z1 z2 z3 z4)
          · refine QW.aload_n dMo_isPairing_72 rfl rfl ?_
            refine MW.getr (r' := 205) hX dMo_isPairing_73 fMo_49 rfl rfl (by cases sw <;> rfl) ?_
            refine QW.iconst (v := 4) dMo_isPairing_76 (by decide) ?_
            refine QW.iload_n dMo_isPairing_77 rfl rfl ?_
            refine QW.imul dMo_isPairing_78 ?_
            refine QW.iload dMo_isPairing_79 rfl ?_
            refine QW.iadd dMo_isPairing_81 ?_
            refine MW.iald hX dMo_isPairing_82 rfl (h11 z0 z1 z2 z3 z4).1 (rep_get (h11 z0 z1 z2 z3 z4).2) ?_
            refine QW.aload_n dMo_isPairing_83 rfl rfl ?_
            refine MW.getr (r' := 205) hX dMo_isPairing_84 fMo_49 rfl rfl (by cases sw <;> rfl) ?_
            refine QW.iconst (v := 4) dMo_isPairing_87 (by decide) ?_
            refine QW.iload_n dMo_isPairing_88 rfl rfl ?_
            refine QW.imul dMo_isPairing_89 ?_
            refine QW.iload dMo_isPairing_90 rfl ?_
            refine QW.iadd dMo_isPairing_92 ?_
            refine MW.iald hX dMo_isPairing_93 rfl (h12 z0 z1 z2 z3 z4).1 (rep_get (h12 z0 z1 z2 z3 z4).2) ?_
            refine QW.icmp_ne (tgt := 111) dMo_isPairing_94 (by decide) (fun z5 => ?_) (fun z5 => ?_)
            · exact (k13 z0 z1 z2 z3 z4 z5)
            · refine QW.iload dMo_isPairing_97 rfl ?_
              refine QW.iload dMo_isPairing_99 rfl ?_
              refine QW.ishr dMo_isPairing_101 ?_
              refine QW.iconst (v := 1) dMo_isPairing_102 (by decide) ?_
              refine QW.iand dMo_isPairing_103 ?_
              refine QW.if_ne (tgt := 111) dMo_isPairing_104 (by decide) (fun z6 => ?_) (fun z6 => ?_)
              · exact (k14 z0 z1 z2 z3 z4 z5 z6)
              · refine QW.iconst (v := 1) dMo_isPairing_107 (by decide) ?_
                refine QW.goto (tgt := 112) dMo_isPairing_108 (by decide) ?_
                exact (k15 z0 z1 z2 z3 z4 z5 z6)
theorem bMo_isPairing_111 {a1 : Int32} {a2 : Int32} {a3 : Int32} {a4 : Int32} {a5 : Int32} {a6 : Int32} {a7 : Int32} (hX : X.length = 13) (k1 : QW d mMo_isPairing 112 (lMo_isPairing_112 a1 a2 a3 a4 a5 a6 a7) [.int 0] (hpo X mem sw o e) P) : QW d mMo_isPairing 111 (lMo_isPairing_111 a1 a2 a3 a4 a5 a6 a7) [] (hpo X mem sw o e) P := by
  show QW d mMo_isPairing 111 [.val (.ref 193), .val (.int a1), .val (.int a2), .val (.int a3), .val (.int a4), .val (.int a5), .val (.int a6), .val (.int a7)] [] (hpo X mem sw o e) P
  refine QW.iconst (v := 0) dMo_isPairing_111 (by decide) ?_
  exact k1
theorem bMo_isPairing_112 {a1 : Int32} {a2 : Int32} {a3 : Int32} {a4 : Int32} {a5 : Int32} {a6 : Int32} {a7 : Int32} {s0 : Int32} (hX : X.length = 13) (h1 : inx a6 4) (k2 : QW d mMo_isPairing 9 (lMo_isPairing_9 a1 a2 a3 (a4 ||| (1 <<< (a7 &&& 31))) s0 (a6 + 1) (.val (.int a7))) [] (hpo X (mup mem 223 (Int32.toNatClampNeg a6) a7) sw o e) P) : QW d mMo_isPairing 112 (lMo_isPairing_112 a1 a2 a3 a4 a5 a6 a7) [.int s0] (hpo X mem sw o e) P := by
  show QW d mMo_isPairing 112 [.val (.ref 193), .val (.int a1), .val (.int a2), .val (.int a3), .val (.int a4), .val (.int a5), .val (.int a6), .val (.int a7)] [.int s0] (hpo X mem sw o e) P
  refine QW.istore (ls' := [.val (.ref 193), .val (.int a1), .val (.int a2), .val (.int a3), .val (.int a4), .val (.int s0), .val (.int a6), .val (.int a7)]) dMo_isPairing_112 rfl ?_
  refine QW.iload dMo_isPairing_114 rfl ?_
  refine QW.iconst (v := 1) dMo_isPairing_116 (by decide) ?_
  refine QW.iload dMo_isPairing_117 rfl ?_
  refine QW.ishl dMo_isPairing_119 ?_
  refine QW.ior dMo_isPairing_120 ?_
  refine QW.istore (ls' := [.val (.ref 193), .val (.int a1), .val (.int a2), .val (.int a3), .val (.int (a4 ||| (1 <<< (a7 &&& 31)))), .val (.int s0), .val (.int a6), .val (.int a7)]) dMo_isPairing_121 rfl ?_
  refine QW.aload_n dMo_isPairing_123 rfl rfl ?_
  refine MW.getr (r' := 223) hX dMo_isPairing_124 fMo_103 rfl rfl (by cases sw <;> rfl) ?_
  refine QW.iload dMo_isPairing_127 rfl ?_
  refine QW.iload dMo_isPairing_129 rfl ?_
  refine MW.iast hX dMo_isPairing_131 rfl h1.1 (rep_get h1.2) ?_
  refine QW.goto (tgt := 153) dMo_isPairing_132 (by decide) ?_
  refine MW.iinc (c := 1) (ls' := [.val (.ref 193), .val (.int a1), .val (.int a2), .val (.int a3), .val (.int (a4 ||| (1 <<< (a7 &&& 31)))), .val (.int s0), .val (.int (a6 + 1)), .val (.int a7)]) dMo_isPairing_153 (by decide) rfl rfl ?_
  refine QW.goto (tgt := 9) dMo_isPairing_156 (by decide) ?_
  exact k2
theorem bMo_isPairing_151 {a1 : Int32} {a2 : Int32} {a3 : Int32} {a4 : Int32} {a5 : Int32} {a6 : Int32} {w7 : Slot} {s0 : Int32} (hX : X.length = 13) (hw7 : qfr w7) (k1 : QW d mMo_isPairing 9 (lMo_isPairing_9 a1 a2 a3 a4 s0 (a6 + 1) w7) [] (hpo X mem sw o e) P) : QW d mMo_isPairing 151 (lMo_isPairing_151 a1 a2 a3 a4 a5 a6 w7) [.int s0] (hpo X mem sw o e) P := by
  show QW d mMo_isPairing 151 [.val (.ref 193), .val (.int a1), .val (.int a2), .val (.int a3), .val (.int a4), .val (.int a5), .val (.int a6), w7] [.int s0] (hpo X mem sw o e) P
  refine QW.istore (ls' := [.val (.ref 193), .val (.int a1), .val (.int a2), .val (.int a3), .val (.int a4), .val (.int s0), .val (.int a6), w7]) dMo_isPairing_151 rfl ?_
  refine MW.iinc (c := 1) (ls' := [.val (.ref 193), .val (.int a1), .val (.int a2), .val (.int a3), .val (.int a4), .val (.int s0), .val (.int (a6 + 1)), w7]) dMo_isPairing_153 (by decide) rfl rfl ?_
  refine QW.goto (tgt := 9) dMo_isPairing_156 (by decide) ?_
  exact k1
theorem bMo_isPairing_159 {a1 : Int32} {a2 : Int32} {a3 : Int32} {a4 : Int32} {a5 : Int32} {a6 : Int32} {w7 : Slot} (hX : X.length = 13) (hw7 : qfr w7) (h1 : narrow .boolean (.int a5) = .int a5) (k2 : P (.inl (some (.int a5)), (hpo X mem sw o e))) : QW d mMo_isPairing 159 (lMo_isPairing_159 a1 a2 a3 a4 a5 a6 w7) [] (hpo X mem sw o e) P := by
  show QW d mMo_isPairing 159 [.val (.ref 193), .val (.int a1), .val (.int a2), .val (.int a3), .val (.int a4), .val (.int a5), .val (.int a6), w7] [] (hpo X mem sw o e) P
  refine QW.iload dMo_isPairing_159 rfl ?_
  exact QW.iret dMo_isPairing_161 rfl h1 k2
theorem dMo_alike_0 : decode mMo_alike.2.1 0 = .ok (.aload_n 0, 1) := by decide +kernel
theorem dMo_alike_1 : decode mMo_alike.2.1 1 = .ok (.iload_n 1, 1) := by decide +kernel
theorem dMo_alike_2 : decode mMo_alike.2.1 2 = .ok (.ifCond .lt 23, 3) := by decide +kernel
theorem dMo_alike_5 : decode mMo_alike.2.1 5 = .ok (.iload_n 1, 1) := by decide +kernel
theorem dMo_alike_6 : decode mMo_alike.2.1 6 = .ok (.aload_n 0, 1) := by decide +kernel
theorem dMo_alike_7 : decode mMo_alike.2.1 7 = .ok (.getfield 202, 3) := by decide +kernel
theorem dMo_alike_10 : decode mMo_alike.2.1 10 = .ok (.if_icmp .ge 15, 3) := by decide +kernel
theorem dMo_alike_13 : decode mMo_alike.2.1 13 = .ok (.iload_n 2, 1) := by decide +kernel
theorem dMo_alike_14 : decode mMo_alike.2.1 14 = .ok (.ifCond .lt 11, 3) := by decide +kernel
theorem dMo_alike_17 : decode mMo_alike.2.1 17 = .ok (.iload_n 2, 1) := by decide +kernel
theorem dMo_alike_18 : decode mMo_alike.2.1 18 = .ok (.aload_n 0, 1) := by decide +kernel
theorem dMo_alike_19 : decode mMo_alike.2.1 19 = .ok (.getfield 202, 3) := by decide +kernel
theorem dMo_alike_22 : decode mMo_alike.2.1 22 = .ok (.if_icmp .lt 7, 3) := by decide +kernel
theorem dMo_alike_25 : decode mMo_alike.2.1 25 = .ok (.iconst 1, 1) := by decide +kernel
theorem dMo_alike_26 : decode mMo_alike.2.1 26 = .ok (.goto 4, 3) := by decide +kernel
theorem dMo_alike_29 : decode mMo_alike.2.1 29 = .ok (.iconst 0, 1) := by decide +kernel
theorem dMo_alike_30 : decode mMo_alike.2.1 30 = .ok (.putfield 106, 3) := by decide +kernel
theorem dMo_alike_33 : decode mMo_alike.2.1 33 = .ok (.aload_n 0, 1) := by decide +kernel
theorem dMo_alike_34 : decode mMo_alike.2.1 34 = .ok (.getfield 106, 3) := by decide +kernel
theorem dMo_alike_37 : decode mMo_alike.2.1 37 = .ok (.ifCond .le 5, 3) := by decide +kernel
theorem dMo_alike_40 : decode mMo_alike.2.1 40 = .ok (.iconst 0, 1) := by decide +kernel
theorem dMo_alike_41 : decode mMo_alike.2.1 41 = .ok (.ireturn, 1) := by decide +kernel
theorem dMo_alike_42 : decode mMo_alike.2.1 42 = .ok (.aload_n 0, 1) := by decide +kernel
theorem dMo_alike_43 : decode mMo_alike.2.1 43 = .ok (.aload_n 0, 1) := by decide +kernel
theorem dMo_alike_44 : decode mMo_alike.2.1 44 = .ok (.getfield 31, 3) := by decide +kernel
theorem dMo_alike_47 : decode mMo_alike.2.1 47 = .ok (.iload_n 1, 1) := by decide +kernel
theorem dMo_alike_48 : decode mMo_alike.2.1 48 = .ok (.iaload, 1) := by decide +kernel
theorem dMo_alike_49 : decode mMo_alike.2.1 49 = .ok (.iconst 1, 1) := by decide +kernel
theorem dMo_alike_50 : decode mMo_alike.2.1 50 = .ok (.if_icmp .gt 13, 3) := by decide +kernel
theorem dMo_alike_53 : decode mMo_alike.2.1 53 = .ok (.aload_n 0, 1) := by decide +kernel
theorem dMo_alike_54 : decode mMo_alike.2.1 54 = .ok (.getfield 31, 3) := by decide +kernel
theorem dMo_alike_57 : decode mMo_alike.2.1 57 = .ok (.iload_n 2, 1) := by decide +kernel
theorem dMo_alike_58 : decode mMo_alike.2.1 58 = .ok (.iaload, 1) := by decide +kernel
theorem dMo_alike_59 : decode mMo_alike.2.1 59 = .ok (.iconst 1, 1) := by decide +kernel
theorem dMo_alike_60 : decode mMo_alike.2.1 60 = .ok (.if_icmp .le 7, 3) := by decide +kernel
theorem dMo_alike_63 : decode mMo_alike.2.1 63 = .ok (.iconst 2, 1) := by decide +kernel
theorem dMo_alike_64 : decode mMo_alike.2.1 64 = .ok (.goto 4, 3) := by decide +kernel
theorem dMo_alike_67 : decode mMo_alike.2.1 67 = .ok (.iconst 0, 1) := by decide +kernel
theorem dMo_alike_68 : decode mMo_alike.2.1 68 = .ok (.putfield 106, 3) := by decide +kernel
theorem dMo_alike_71 : decode mMo_alike.2.1 71 = .ok (.aload_n 0, 1) := by decide +kernel
theorem dMo_alike_72 : decode mMo_alike.2.1 72 = .ok (.getfield 106, 3) := by decide +kernel
theorem dMo_alike_75 : decode mMo_alike.2.1 75 = .ok (.ifCond .le 5, 3) := by decide +kernel
theorem dMo_alike_78 : decode mMo_alike.2.1 78 = .ok (.iconst 0, 1) := by decide +kernel
theorem dMo_alike_79 : decode mMo_alike.2.1 79 = .ok (.ireturn, 1) := by decide +kernel
theorem dMo_alike_80 : decode mMo_alike.2.1 80 = .ok (.iconst 3, 1) := by decide +kernel
theorem dMo_alike_81 : decode mMo_alike.2.1 81 = .ok (.iload_n 1, 1) := by decide +kernel
theorem dMo_alike_82 : decode mMo_alike.2.1 82 = .ok (.imul, 1) := by decide +kernel
theorem dMo_alike_83 : decode mMo_alike.2.1 83 = .ok (.istore_n 3, 1) := by decide +kernel
theorem dMo_alike_84 : decode mMo_alike.2.1 84 = .ok (.iconst 3, 1) := by decide +kernel
theorem dMo_alike_85 : decode mMo_alike.2.1 85 = .ok (.iload_n 2, 1) := by decide +kernel
theorem dMo_alike_86 : decode mMo_alike.2.1 86 = .ok (.imul, 1) := by decide +kernel
theorem dMo_alike_87 : decode mMo_alike.2.1 87 = .ok (.istore 4, 2) := by decide +kernel
theorem dMo_alike_89 : decode mMo_alike.2.1 89 = .ok (.aload_n 0, 1) := by decide +kernel
theorem dMo_alike_90 : decode mMo_alike.2.1 90 = .ok (.iconst 0, 1) := by decide +kernel
theorem dMo_alike_91 : decode mMo_alike.2.1 91 = .ok (.iload_n 3, 1) := by decide +kernel
theorem dMo_alike_92 : decode mMo_alike.2.1 92 = .ok (.invokevirtual 284, 3) := by decide +kernel
theorem dMo_alike_95 : decode mMo_alike.2.1 95 = .ok (.aload_n 0, 1) := by decide +kernel
theorem dMo_alike_96 : decode mMo_alike.2.1 96 = .ok (.iconst 1, 1) := by decide +kernel
theorem dMo_alike_97 : decode mMo_alike.2.1 97 = .ok (.iload 4, 2) := by decide +kernel
theorem dMo_alike_99 : decode mMo_alike.2.1 99 = .ok (.invokevirtual 284, 3) := by decide +kernel
theorem dMo_alike_102 : decode mMo_alike.2.1 102 = .ok (.aload_n 0, 1) := by decide +kernel
theorem dMo_alike_103 : decode mMo_alike.2.1 103 = .ok (.iconst 0, 1) := by decide +kernel
theorem dMo_alike_104 : decode mMo_alike.2.1 104 = .ok (.iload_n 3, 1) := by decide +kernel
theorem dMo_alike_105 : decode mMo_alike.2.1 105 = .ok (.invokevirtual 287, 3) := by decide +kernel
theorem dMo_alike_108 : decode mMo_alike.2.1 108 = .ok (.istore 5, 2) := by decide +kernel
theorem dMo_alike_110 : decode mMo_alike.2.1 110 = .ok (.aload_n 0, 1) := by decide +kernel
theorem dMo_alike_111 : decode mMo_alike.2.1 111 = .ok (.getfield 37, 3) := by decide +kernel
theorem dMo_alike_114 : decode mMo_alike.2.1 114 = .ok (.iload_n 3, 1) := by decide +kernel
theorem dMo_alike_115 : decode mMo_alike.2.1 115 = .ok (.baload, 1) := by decide +kernel
theorem dMo_alike_116 : decode mMo_alike.2.1 116 = .ok (.aload_n 0, 1) := by decide +kernel
theorem dMo_alike_117 : decode mMo_alike.2.1 117 = .ok (.getfield 37, 3) := by decide +kernel
theorem dMo_alike_120 : decode mMo_alike.2.1 120 = .ok (.iload 4, 2) := by decide +kernel
theorem dMo_alike_122 : decode mMo_alike.2.1 122 = .ok (.baload, 1) := by decide +kernel
theorem dMo_alike_123 : decode mMo_alike.2.1 123 = .ok (.if_icmp .ne 31, 3) := by decide +kernel
theorem dMo_alike_126 : decode mMo_alike.2.1 126 = .ok (.aload_n 0, 1) := by decide +kernel
theorem dMo_alike_127 : decode mMo_alike.2.1 127 = .ok (.getfield 40, 3) := by decide +kernel
theorem dMo_alike_130 : decode mMo_alike.2.1 130 = .ok (.iload_n 3, 1) := by decide +kernel
theorem dMo_alike_131 : decode mMo_alike.2.1 131 = .ok (.iaload, 1) := by decide +kernel
theorem dMo_alike_132 : decode mMo_alike.2.1 132 = .ok (.aload_n 0, 1) := by decide +kernel
theorem dMo_alike_133 : decode mMo_alike.2.1 133 = .ok (.getfield 40, 3) := by decide +kernel
theorem dMo_alike_136 : decode mMo_alike.2.1 136 = .ok (.iload 4, 2) := by decide +kernel
theorem dMo_alike_138 : decode mMo_alike.2.1 138 = .ok (.iaload, 1) := by decide +kernel
theorem dMo_alike_139 : decode mMo_alike.2.1 139 = .ok (.if_icmp .ne 15, 3) := by decide +kernel
theorem dMo_alike_142 : decode mMo_alike.2.1 142 = .ok (.iload 5, 2) := by decide +kernel
theorem dMo_alike_144 : decode mMo_alike.2.1 144 = .ok (.aload_n 0, 1) := by decide +kernel
theorem dMo_alike_145 : decode mMo_alike.2.1 145 = .ok (.iconst 1, 1) := by decide +kernel
theorem dMo_alike_146 : decode mMo_alike.2.1 146 = .ok (.iload 4, 2) := by decide +kernel
theorem dMo_alike_148 : decode mMo_alike.2.1 148 = .ok (.invokevirtual 287, 3) := by decide +kernel
theorem dMo_alike_151 : decode mMo_alike.2.1 151 = .ok (.if_icmp .eq 5, 3) := by decide +kernel
theorem dMo_alike_154 : decode mMo_alike.2.1 154 = .ok (.iconst 0, 1) := by decide +kernel
theorem dMo_alike_155 : decode mMo_alike.2.1 155 = .ok (.ireturn, 1) := by decide +kernel
theorem dMo_alike_156 : decode mMo_alike.2.1 156 = .ok (.iload 5, 2) := by decide +kernel
theorem dMo_alike_158 : decode mMo_alike.2.1 158 = .ok (.istore 6, 2) := by decide +kernel
theorem dMo_alike_160 : decode mMo_alike.2.1 160 = .ok (.iconst 0, 1) := by decide +kernel
theorem dMo_alike_161 : decode mMo_alike.2.1 161 = .ok (.istore 7, 2) := by decide +kernel
theorem dMo_alike_163 : decode mMo_alike.2.1 163 = .ok (.iload 7, 2) := by decide +kernel
theorem dMo_alike_165 : decode mMo_alike.2.1 165 = .ok (.sipush 256, 3) := by decide +kernel
theorem dMo_alike_168 : decode mMo_alike.2.1 168 = .ok (.if_icmp .ge 59, 3) := by decide +kernel
theorem dMo_alike_171 : decode mMo_alike.2.1 171 = .ok (.iload 6, 2) := by decide +kernel
theorem dMo_alike_173 : decode mMo_alike.2.1 173 = .ok (.ifCond .ne 54, 3) := by decide +kernel
theorem dMo_alike_176 : decode mMo_alike.2.1 176 = .ok (.aload_n 0, 1) := by decide +kernel
theorem dMo_alike_177 : decode mMo_alike.2.1 177 = .ok (.iconst 0, 1) := by decide +kernel
theorem dMo_alike_178 : decode mMo_alike.2.1 178 = .ok (.iload_n 3, 1) := by decide +kernel
theorem dMo_alike_179 : decode mMo_alike.2.1 179 = .ok (.invokevirtual 290, 3) := by decide +kernel
theorem dMo_alike_182 : decode mMo_alike.2.1 182 = .ok (.aload_n 0, 1) := by decide +kernel
theorem dMo_alike_183 : decode mMo_alike.2.1 183 = .ok (.iconst 1, 1) := by decide +kernel
theorem dMo_alike_184 : decode mMo_alike.2.1 184 = .ok (.iload 4, 2) := by decide +kernel
theorem dMo_alike_186 : decode mMo_alike.2.1 186 = .ok (.invokevirtual 290, 3) := by decide +kernel
theorem dMo_alike_189 : decode mMo_alike.2.1 189 = .ok (.if_icmp .ne 38, 3) := by decide +kernel
theorem dMo_alike_192 : decode mMo_alike.2.1 192 = .ok (.aload_n 0, 1) := by decide +kernel
theorem dMo_alike_193 : decode mMo_alike.2.1 193 = .ok (.iload 7, 2) := by decide +kernel
theorem dMo_alike_195 : decode mMo_alike.2.1 195 = .ok (.iload_n 3, 1) := by decide +kernel
theorem dMo_alike_196 : decode mMo_alike.2.1 196 = .ok (.iload 4, 2) := by decide +kernel
theorem dMo_alike_198 : decode mMo_alike.2.1 198 = .ok (.invokevirtual 293, 3) := by decide +kernel
theorem dMo_alike_201 : decode mMo_alike.2.1 201 = .ok (.ifCond .eq 17, 3) := by decide +kernel
theorem dMo_alike_204 : decode mMo_alike.2.1 204 = .ok (.aload_n 0, 1) := by decide +kernel
theorem dMo_alike_205 : decode mMo_alike.2.1 205 = .ok (.iload_n 3, 1) := by decide +kernel
theorem dMo_alike_206 : decode mMo_alike.2.1 206 = .ok (.iload 4, 2) := by decide +kernel
theorem dMo_alike_208 : decode mMo_alike.2.1 208 = .ok (.invokevirtual 296, 3) := by decide +kernel
theorem dMo_alike_211 : decode mMo_alike.2.1 211 = .ok (.ifCond .eq 7, 3) := by decide +kernel
theorem dMo_alike_214 : decode mMo_alike.2.1 214 = .ok (.iconst 1, 1) := by decide +kernel
theorem dMo_alike_215 : decode mMo_alike.2.1 215 = .ok (.goto 4, 3) := by decide +kernel
theorem dMo_alike_218 : decode mMo_alike.2.1 218 = .ok (.iconst 0, 1) := by decide +kernel
theorem dMo_alike_219 : decode mMo_alike.2.1 219 = .ok (.istore 6, 2) := by decide +kernel
theorem dMo_alike_221 : decode mMo_alike.2.1 221 = .ok (.iinc 7 1, 3) := by decide +kernel
theorem dMo_alike_224 : decode mMo_alike.2.1 224 = .ok (.goto (-61), 3) := by decide +kernel
theorem dMo_alike_227 : decode mMo_alike.2.1 227 = .ok (.iload 6, 2) := by decide +kernel
theorem dMo_alike_229 : decode mMo_alike.2.1 229 = .ok (.ireturn, 1) := by decide +kernel
def lMo_alike_25 (a1 : Int32) (a2 : Int32) : List Slot := [.val (.ref 193), .val (.int a1), .val (.int a2), .unset, .unset, .unset, .unset, .unset]
def lMo_alike_30 (a1 : Int32) (a2 : Int32) : List Slot := [.val (.ref 193), .val (.int a1), .val (.int a2), .unset, .unset, .unset, .unset, .unset]
def lMo_alike_63 (a1 : Int32) (a2 : Int32) : List Slot := [.val (.ref 193), .val (.int a1), .val (.int a2), .unset, .unset, .unset, .unset, .unset]
def lMo_alike_68 (a1 : Int32) (a2 : Int32) : List Slot := [.val (.ref 193), .val (.int a1), .val (.int a2), .unset, .unset, .unset, .unset, .unset]
def lMo_alike_95 (a1 : Int32) (a2 : Int32) (a3 : Int32) (a4 : Int32) : List Slot := [.val (.ref 193), .val (.int a1), .val (.int a2), .val (.int a3), .val (.int a4), .unset, .unset, .unset]
def lMo_alike_102 (a1 : Int32) (a2 : Int32) (a3 : Int32) (a4 : Int32) : List Slot := [.val (.ref 193), .val (.int a1), .val (.int a2), .val (.int a3), .val (.int a4), .unset, .unset, .unset]
def lMo_alike_108 (a1 : Int32) (a2 : Int32) (a3 : Int32) (a4 : Int32) : List Slot := [.val (.ref 193), .val (.int a1), .val (.int a2), .val (.int a3), .val (.int a4), .unset, .unset, .unset]
def lMo_alike_151 (a1 : Int32) (a2 : Int32) (a3 : Int32) (a4 : Int32) (a5 : Int32) : List Slot := [.val (.ref 193), .val (.int a1), .val (.int a2), .val (.int a3), .val (.int a4), .val (.int a5), .unset, .unset]
def lMo_alike_163 (a1 : Int32) (a2 : Int32) (a3 : Int32) (a4 : Int32) (a5 : Int32) (a6 : Int32) (a7 : Int32) : List Slot := [.val (.ref 193), .val (.int a1), .val (.int a2), .val (.int a3), .val (.int a4), .val (.int a5), .val (.int a6), .val (.int a7)]
def lMo_alike_182 (a1 : Int32) (a2 : Int32) (a3 : Int32) (a4 : Int32) (a5 : Int32) (a6 : Int32) (a7 : Int32) : List Slot := [.val (.ref 193), .val (.int a1), .val (.int a2), .val (.int a3), .val (.int a4), .val (.int a5), .val (.int a6), .val (.int a7)]
def lMo_alike_189 (a1 : Int32) (a2 : Int32) (a3 : Int32) (a4 : Int32) (a5 : Int32) (a6 : Int32) (a7 : Int32) : List Slot := [.val (.ref 193), .val (.int a1), .val (.int a2), .val (.int a3), .val (.int a4), .val (.int a5), .val (.int a6), .val (.int a7)]
def lMo_alike_201 (a1 : Int32) (a2 : Int32) (a3 : Int32) (a4 : Int32) (a5 : Int32) (a6 : Int32) (a7 : Int32) : List Slot := [.val (.ref 193), .val (.int a1), .val (.int a2), .val (.int a3), .val (.int a4), .val (.int a5), .val (.int a6), .val (.int a7)]
def lMo_alike_211 (a1 : Int32) (a2 : Int32) (a3 : Int32) (a4 : Int32) (a5 : Int32) (a6 : Int32) (a7 : Int32) : List Slot := [.val (.ref 193), .val (.int a1), .val (.int a2), .val (.int a3), .val (.int a4), .val (.int a5), .val (.int a6), .val (.int a7)]
def lMo_alike_218 (a1 : Int32) (a2 : Int32) (a3 : Int32) (a4 : Int32) (a5 : Int32) (a6 : Int32) (a7 : Int32) : List Slot := [.val (.ref 193), .val (.int a1), .val (.int a2), .val (.int a3), .val (.int a4), .val (.int a5), .val (.int a6), .val (.int a7)]
def lMo_alike_219 (a1 : Int32) (a2 : Int32) (a3 : Int32) (a4 : Int32) (a5 : Int32) (a6 : Int32) (a7 : Int32) : List Slot := [.val (.ref 193), .val (.int a1), .val (.int a2), .val (.int a3), .val (.int a4), .val (.int a5), .val (.int a6), .val (.int a7)]
def lMo_alike_227 (a1 : Int32) (a2 : Int32) (a3 : Int32) (a4 : Int32) (a5 : Int32) (a6 : Int32) (a7 : Int32) : List Slot := [.val (.ref 193), .val (.int a1), .val (.int a2), .val (.int a3), .val (.int a4), .val (.int a5), .val (.int a6), .val (.int a7)]
theorem bMo_alike_0 {a1 : Int32} {a2 : Int32} (hX : X.length = 13) (k1 : (a1 < 0) → QW d mMo_alike 25 (lMo_alike_25 a1 a2) [.ref 193] (hpo X mem sw o e) P) (k2 : (¬ a1 < 0) → ((mem 193 13) ≤ a1) → QW d mMo_alike 25 (lMo_alike_25 a1 a2) [.ref 193] (hpo X mem sw o e) P) (k3 : (¬ a1 < 0) → (¬ (mem 193 13) ≤ a1) → (a2 < 0) → QW d mMo_alike 25 (lMo_alike_25 a1 a2) [.ref 193] (hpo X mem sw o e) P) (k4 : (¬ a1 < 0) → (¬ (mem 193 13) ≤ a1) → (¬ a2 < 0) → (a2 < (mem 193 13)) → QW d mMo_alike 30 (lMo_alike_30 a1 a2) [.int 0, .ref 193] (hpo X mem sw o e) P) (k5 : (¬ a1 < 0) → (¬ (mem 193 13) ≤ a1) → (¬ a2 < 0) → (¬ a2 < (mem 193 13)) → QW d mMo_alike 25 (lMo_alike_25 a1 a2) [.ref 193] (hpo X mem sw o e) P) : QW d mMo_alike 0 (qen 8 [.ref 193, .int a1, .int a2]) [] (hpo X mem sw o e) P := by
  show QW d mMo_alike 0 [.val (.ref 193), .val (.int a1), .val (.int a2), .unset, .unset, .unset, .unset, .unset] [] (hpo X mem sw o e) P
  refine QW.aload_n dMo_alike_0 rfl rfl ?_
  refine QW.iload_n dMo_alike_1 rfl rfl ?_
  refine QW.if_lt (tgt := 25) dMo_alike_2 (by decide) (fun z0 => ?_) (fun z0 => ?_)
  · exact (k1 z0)
  · refine QW.iload_n dMo_alike_5 rfl rfl ?_
    refine QW.aload_n dMo_alike_6 rfl rfl ?_
    refine MW.geti hX dMo_alike_7 fMo_202 rfl rfl ?_
    refine QW.icmp_ge (tgt := 25) dMo_alike_10 (by decide) (fun z1 => ?_) (fun z1 => ?_)
    · exact (k2 z0 z1)
    · refine QW.iload_n dMo_alike_13 rfl rfl ?_
      refine QW.if_lt (tgt := 25) dMo_alike_14 (by decide) (fun z2 => ?_) (fun z2 => ?_)
      · exact (k3 z0 z1 z2)
      · refine QW.iload_n dMo_alike_17 rfl rfl ?_
        refine QW.aload_n dMo_alike_18 rfl rfl ?_
        refine MW.geti hX dMo_alike_19 fMo_202 rfl rfl ?_
        refine QW.icmp_lt (tgt := 29) dMo_alike_22 (by decide) (fun z3 => ?_) (fun z3 => ?_)
        · refine QW.iconst (v := 0) dMo_alike_29 (by decide) ?_
          exact (k4 z0 z1 z2 z3)
        · exact (k5 z0 z1 z2 z3)
theorem bMo_alike_25 {a1 : Int32} {a2 : Int32} (hX : X.length = 13) (k1 : QW d mMo_alike 30 (lMo_alike_30 a1 a2) [.int 1, .ref 193] (hpo X mem sw o e) P) : QW d mMo_alike 25 (lMo_alike_25 a1 a2) [.ref 193] (hpo X mem sw o e) P := by
  show QW d mMo_alike 25 [.val (.ref 193), .val (.int a1), .val (.int a2), .unset, .unset, .unset, .unset, .unset] [.ref 193] (hpo X mem sw o e) P
  refine QW.iconst (v := 1) dMo_alike_25 (by decide) ?_
  refine QW.goto (tgt := 30) dMo_alike_26 (by decide) ?_
  exact k1
theorem bMo_alike_30 {a1 : Int32} {a2 : Int32} {s1 : Int32} (hX : X.length = 13) (h1 : (((mup mem 193 0 s1) 193 0) ≤ 0) → inx a1 5) (k2 : (((mup mem 193 0 s1) 193 0) ≤ 0) → (1 < ((mup mem 193 0 s1) 199 (Int32.toNatClampNeg a1))) → QW d mMo_alike 63 (lMo_alike_63 a1 a2) [.ref 193] (hpo X (mup mem 193 0 s1) sw o e) P) (h3 : (((mup mem 193 0 s1) 193 0) ≤ 0) → (¬ 1 < ((mup mem 193 0 s1) 199 (Int32.toNatClampNeg a1))) → inx a2 5) (k4 : (((mup mem 193 0 s1) 193 0) ≤ 0) → (¬ 1 < ((mup mem 193 0 s1) 199 (Int32.toNatClampNeg a1))) → (((mup mem 193 0 s1) 199 (Int32.toNatClampNeg a2)) ≤ 1) → QW d mMo_alike 68 (lMo_alike_68 a1 a2) [.int 0, .ref 193] (hpo X (mup mem 193 0 s1) sw o e) P) (k5 : (((mup mem 193 0 s1) 193 0) ≤ 0) → (¬ 1 < ((mup mem 193 0 s1) 199 (Int32.toNatClampNeg a1))) → (¬ ((mup mem 193 0 s1) 199 (Int32.toNatClampNeg a2)) ≤ 1) → QW d mMo_alike 63 (lMo_alike_63 a1 a2) [.ref 193] (hpo X (mup mem 193 0 s1) sw o e) P) (k6 : (¬ ((mup mem 193 0 s1) 193 0) ≤ 0) → P (.inl (some (.int 0)), (hpo X (mup mem 193 0 s1) sw o e))) : QW d mMo_alike 30 (lMo_alike_30 a1 a2) [.int s1, .ref 193] (hpo X mem sw o e) P := by
  show QW d mMo_alike 30 [.val (.ref 193), .val (.int a1), .val (.int a2), .unset, .unset, .unset, .unset, .unset] [.int s1, .ref 193] (hpo X mem sw o e) P
  refine MW.puti hX dMo_alike_30 fMo_106 rfl rfl rfl ?_
  refine QW.aload_n dMo_alike_33 rfl rfl ?_
  refine MW.geti hX dMo_alike_34 fMo_106 rfl rfl ?_
  refine QW.if_le (tgt := 42) dMo_alike_37 (by decide) (fun z0 => ?_) (fun z0 => ?_)
  · refine QW.aload_n dMo_alike_42 rfl rfl ?_
    refine QW.aload_n dMo_alike_43 rfl rfl ?_
    refine MW.getr (r' := 199) hX dMo_alike_44 fMo_31 rfl rfl (by cases sw <;> rfl) ?_
    refine QW.iload_n dMo_alike_47 rfl rfl ?_
    refine MW.iald hX dMo_alike_48 rfl (h1 z0).1 (rep_get (h1 z0).2) ?_
    refine QW.iconst (v := 1) dMo_alike_49 (by decide) ?_
    refine QW.icmp_gt (tgt := 63) dMo_alike_50 (by decide) (fun z1 => ?_) (fun z1 => ?_)
    · exact (k2 z0 z1)
    · refine QW.aload_n dMo_alike_53 rfl rfl ?_
      refine MW.getr (r' := 199) hX dMo_alike_54 fMo_31 rfl rfl (by cases sw <;> rfl) ?_
      refine QW.iload_n dMo_alike_57 rfl rfl ?_
      refine MW.iald hX dMo_alike_58 rfl (h3 z0 z1).1 (rep_get (h3 z0 z1).2) ?_
      refine QW.iconst (v := 1) dMo_alike_59 (by decide) ?_
      refine QW.icmp_le (tgt := 67) dMo_alike_60 (by decide) (fun z2 => ?_) (fun z2 => ?_)
      · refine QW.iconst (v := 0) dMo_alike_67 (by decide) ?_
        exact (k4 z0 z1 z2)
      · exact (k5 z0 z1 z2)
  · refine QW.iconst (v := 0) dMo_alike_40 (by decide) ?_
    exact QW.iret dMo_alike_41 rfl rfl (k6 z0)
theorem bMo_alike_63 {a1 : Int32} {a2 : Int32} (hX : X.length = 13) (k1 : QW d mMo_alike 68 (lMo_alike_68 a1 a2) [.int 2, .ref 193] (hpo X mem sw o e) P) : QW d mMo_alike 63 (lMo_alike_63 a1 a2) [.ref 193] (hpo X mem sw o e) P := by
  show QW d mMo_alike 63 [.val (.ref 193), .val (.int a1), .val (.int a2), .unset, .unset, .unset, .unset, .unset] [.ref 193] (hpo X mem sw o e) P
  refine QW.iconst (v := 2) dMo_alike_63 (by decide) ?_
  refine QW.goto (tgt := 68) dMo_alike_64 (by decide) ?_
  exact k1
theorem bMo_alike_68 {a1 : Int32} {a2 : Int32} {s1 : Int32} (hX : X.length = 13) (k1 : (((mup mem 193 0 s1) 193 0) ≤ 0) → QW d mMo_form 0 (qen 6 [.ref 193, .int 0, .int (3 * a1)]) [] (hpo X (mup mem 193 0 s1) sw o e) (qcl d mMo_alike 92 95 (lMo_alike_95 a1 a2 (3 * a1) (3 * a2)) [] P)) (k2 : (¬ ((mup mem 193 0 s1) 193 0) ≤ 0) → P (.inl (some (.int 0)), (hpo X (mup mem 193 0 s1) sw o e))) : QW (d + 1) mMo_alike 68 (lMo_alike_68 a1 a2) [.int s1, .ref 193] (hpo X mem sw o e) P := by
  show QW (d + 1) mMo_alike 68 [.val (.ref 193), .val (.int a1), .val (.int a2), .unset, .unset, .unset, .unset, .unset] [.int s1, .ref 193] (hpo X mem sw o e) P
  refine MW.puti hX dMo_alike_68 fMo_106 rfl rfl rfl ?_
  refine QW.aload_n dMo_alike_71 rfl rfl ?_
  refine MW.geti hX dMo_alike_72 fMo_106 rfl rfl ?_
  refine QW.if_le (tgt := 80) dMo_alike_75 (by decide) (fun z0 => ?_) (fun z0 => ?_)
  · refine QW.iconst (v := 3) dMo_alike_80 (by decide) ?_
    refine QW.iload_n dMo_alike_81 rfl rfl ?_
    refine QW.imul dMo_alike_82 ?_
    refine QW.istore_n (ls' := [.val (.ref 193), .val (.int a1), .val (.int a2), .val (.int (3 * a1)), .unset, .unset, .unset, .unset]) dMo_alike_83 rfl rfl ?_
    refine QW.iconst (v := 3) dMo_alike_84 (by decide) ?_
    refine QW.iload_n dMo_alike_85 rfl rfl ?_
    refine QW.imul dMo_alike_86 ?_
    refine QW.istore (ls' := [.val (.ref 193), .val (.int a1), .val (.int a2), .val (.int (3 * a1)), .val (.int (3 * a2)), .unset, .unset, .unset]) dMo_alike_87 rfl ?_
    refine QW.aload_n dMo_alike_89 rfl rfl ?_
    refine QW.iconst (v := 0) dMo_alike_90 (by decide) ?_
    refine QW.iload_n dMo_alike_91 rfl rfl ?_
    exact MW.calV (as := [.int 0, .int (3 * a1)]) (rest := []) hX dMo_alike_92 eMo_form lMo_284 iMo_form vMo_form rfl rfl rfl rfl rfl rfl (Nat.le_of_ble_eq_true rfl) rfl (k1 z0)
  · refine QW.iconst (v := 0) dMo_alike_78 (by decide) ?_
    exact QW.iret dMo_alike_79 rfl rfl (k2 z0)
theorem bMo_alike_95 {a1 : Int32} {a2 : Int32} {a3 : Int32} {a4 : Int32} (hX : X.length = 13) (k1 : QW d mMo_form 0 (qen 6 [.ref 193, .int 1, .int a4]) [] (hpo X mem sw o e) (qcl d mMo_alike 99 102 (lMo_alike_102 a1 a2 a3 a4) [] P)) : QW (d + 1) mMo_alike 95 (lMo_alike_95 a1 a2 a3 a4) [] (hpo X mem sw o e) P := by
  show QW (d + 1) mMo_alike 95 [.val (.ref 193), .val (.int a1), .val (.int a2), .val (.int a3), .val (.int a4), .unset, .unset, .unset] [] (hpo X mem sw o e) P
  refine QW.aload_n dMo_alike_95 rfl rfl ?_
  refine QW.iconst (v := 1) dMo_alike_96 (by decide) ?_
  refine QW.iload dMo_alike_97 rfl ?_
  exact MW.calV (as := [.int 1, .int a4]) (rest := []) hX dMo_alike_99 eMo_form lMo_284 iMo_form vMo_form rfl rfl rfl rfl rfl rfl (Nat.le_of_ble_eq_true rfl) rfl k1
theorem bMo_alike_102 {a1 : Int32} {a2 : Int32} {a3 : Int32} {a4 : Int32} (hX : X.length = 13) (k1 : QW d mMo_isEmpty 0 (qen 9 [.ref 193, .int 0, .int a3]) [] (hpo X mem sw o e) (qcl d mMo_alike 105 108 (lMo_alike_108 a1 a2 a3 a4) [] P)) : QW (d + 1) mMo_alike 102 (lMo_alike_102 a1 a2 a3 a4) [] (hpo X mem sw o e) P := by
  show QW (d + 1) mMo_alike 102 [.val (.ref 193), .val (.int a1), .val (.int a2), .val (.int a3), .val (.int a4), .unset, .unset, .unset] [] (hpo X mem sw o e) P
  refine QW.aload_n dMo_alike_102 rfl rfl ?_
  refine QW.iconst (v := 0) dMo_alike_103 (by decide) ?_
  refine QW.iload_n dMo_alike_104 rfl rfl ?_
  exact MW.calV (as := [.int 0, .int a3]) (rest := []) hX dMo_alike_105 eMo_isEmpty lMo_287 iMo_isEmpty vMo_isEmpty rfl rfl rfl rfl rfl rfl (Nat.le_of_ble_eq_true rfl) rfl k1
theorem bMo_alike_108 {a1 : Int32} {a2 : Int32} {a3 : Int32} {a4 : Int32} {s0 : Int32} (hX : X.length = 13) (h1 : inx a3 15) (h2 : inx a4 15) (k3 : (¬ (mem 201 (Int32.toNatClampNeg a3)) = (mem 201 (Int32.toNatClampNeg a4))) → P (.inl (some (.int 0)), (hpo X mem sw o e))) (h4 : ((mem 201 (Int32.toNatClampNeg a3)) = (mem 201 (Int32.toNatClampNeg a4))) → inx a3 15) (h5 : ((mem 201 (Int32.toNatClampNeg a3)) = (mem 201 (Int32.toNatClampNeg a4))) → inx a4 15) (k6 : ((mem 201 (Int32.toNatClampNeg a3)) = (mem 201 (Int32.toNatClampNeg a4))) → (¬ (mem 202 (Int32.toNatClampNeg a3)) = (mem 202 (Int32.toNatClampNeg a4))) → P (.inl (some (.int 0)), (hpo X mem sw o e))) (k7 : ((mem 201 (Int32.toNatClampNeg a3)) = (mem 201 (Int32.toNatClampNeg a4))) → ((mem 202 (Int32.toNatClampNeg a3)) = (mem 202 (Int32.toNatClampNeg a4))) → QW d mMo_isEmpty 0 (qen 9 [.ref 193, .int 1, .int a4]) [] (hpo X mem sw o e) (qcl d mMo_alike 148 151 (lMo_alike_151 a1 a2 a3 a4 s0) [.int s0] P)) : QW (d + 1) mMo_alike 108 (lMo_alike_108 a1 a2 a3 a4) [.int s0] (hpo X mem sw o e) P := by
  show QW (d + 1) mMo_alike 108 [.val (.ref 193), .val (.int a1), .val (.int a2), .val (.int a3), .val (.int a4), .unset, .unset, .unset] [.int s0] (hpo X mem sw o e) P
  refine QW.istore (ls' := [.val (.ref 193), .val (.int a1), .val (.int a2), .val (.int a3), .val (.int a4), .val (.int s0), .unset, .unset]) dMo_alike_108 rfl ?_
  refine QW.aload_n dMo_alike_110 rfl rfl ?_
  refine MW.getr (r' := 201) hX dMo_alike_111 fMo_37 rfl rfl (by cases sw <;> rfl) ?_
  refine QW.iload_n dMo_alike_114 rfl rfl ?_
  refine MW.zald hX dMo_alike_115 rfl h1.1 (rep_get h1.2) ?_
  refine QW.aload_n dMo_alike_116 rfl rfl ?_
  refine MW.getr (r' := 201) hX dMo_alike_117 fMo_37 rfl rfl (by cases sw <;> rfl) ?_
  refine QW.iload dMo_alike_120 rfl ?_
  refine MW.zald hX dMo_alike_122 rfl h2.1 (rep_get h2.2) ?_
  refine QW.icmp_ne (tgt := 154) dMo_alike_123 (by decide) (fun z0 => ?_) (fun z0 => ?_)
  · refine QW.iconst (v := 0) dMo_alike_154 (by decide) ?_
    exact QW.iret dMo_alike_155 rfl rfl (k3 z0)
  · refine QW.aload_n dMo_alike_126 rfl rfl ?_
    refine MW.getr (r' := 202) hX dMo_alike_127 fMo_40 rfl rfl (by cases sw <;> rfl) ?_
    refine QW.iload_n dMo_alike_130 rfl rfl ?_
    refine MW.iald hX dMo_alike_131 rfl (h4 z0).1 (rep_get (h4 z0).2) ?_
    refine QW.aload_n dMo_alike_132 rfl rfl ?_
    refine MW.getr (r' := 202) hX dMo_alike_133 fMo_40 rfl rfl (by cases sw <;> rfl) ?_
    refine QW.iload dMo_alike_136 rfl ?_
    refine MW.iald hX dMo_alike_138 rfl (h5 z0).1 (rep_get (h5 z0).2) ?_
    refine QW.icmp_ne (tgt := 154) dMo_alike_139 (by decide) (fun z1 => ?_) (fun z1 => ?_)
    · refine QW.iconst (v := 0) dMo_alike_154 (by decide) ?_
      exact QW.iret dMo_alike_155 rfl rfl (k6 z0 z1)
    · refine QW.iload dMo_alike_142 rfl ?_
      refine QW.aload_n dMo_alike_144 rfl rfl ?_
      refine QW.iconst (v := 1) dMo_alike_145 (by decide) ?_
      refine QW.iload dMo_alike_146 rfl ?_
      exact MW.calV (as := [.int 1, .int a4]) (rest := [.int s0]) hX dMo_alike_148 eMo_isEmpty lMo_287 iMo_isEmpty vMo_isEmpty rfl rfl rfl rfl rfl rfl (Nat.le_of_ble_eq_true rfl) rfl (k7 z0 z1)
theorem bMo_alike_151 {a1 : Int32} {a2 : Int32} {a3 : Int32} {a4 : Int32} {a5 : Int32} {s1 : Int32} {s0 : Int32} (hX : X.length = 13) (k1 : (s0 = s1) → QW d mMo_alike 163 (lMo_alike_163 a1 a2 a3 a4 a5 a5 0) [] (hpo X mem sw o e) P) (k2 : (¬ s0 = s1) → P (.inl (some (.int 0)), (hpo X mem sw o e))) : QW d mMo_alike 151 (lMo_alike_151 a1 a2 a3 a4 a5) [.int s1, .int s0] (hpo X mem sw o e) P := by
  show QW d mMo_alike 151 [.val (.ref 193), .val (.int a1), .val (.int a2), .val (.int a3), .val (.int a4), .val (.int a5), .unset, .unset] [.int s1, .int s0] (hpo X mem sw o e) P
  refine QW.icmp_eq (tgt := 156) dMo_alike_151 (by decide) (fun z0 => ?_) (fun z0 => ?_)
  · refine QW.iload dMo_alike_156 rfl ?_
    refine QW.istore (ls' := [.val (.ref 193), .val (.int a1), .val (.int a2), .val (.int a3), .val (.int a4), .val (.int a5), .val (.int a5), .unset]) dMo_alike_158 rfl ?_
    refine QW.iconst (v := 0) dMo_alike_160 (by decide) ?_
    refine QW.istore (ls' := [.val (.ref 193), .val (.int a1), .val (.int a2), .val (.int a3), .val (.int a4), .val (.int a5), .val (.int a5), .val (.int 0)]) dMo_alike_161 rfl ?_
    exact (k1 z0)
  · refine QW.iconst (v := 0) dMo_alike_154 (by decide) ?_
    exact QW.iret dMo_alike_155 rfl rfl (k2 z0)
theorem bMo_alike_163 {a1 : Int32} {a2 : Int32} {a3 : Int32} {a4 : Int32} {a5 : Int32} {a6 : Int32} {a7 : Int32} (hX : X.length = 13) (k1 : (256 ≤ a7) → QW (d + 1) mMo_alike 227 (lMo_alike_227 a1 a2 a3 a4 a5 a6 a7) [] (hpo X mem sw o e) P) (k2 : (¬ 256 ≤ a7) → (¬ a6 = 0) → QW (d + 1) mMo_alike 227 (lMo_alike_227 a1 a2 a3 a4 a5 a6 a7) [] (hpo X mem sw o e) P) (k3 : (¬ 256 ≤ a7) → (a6 = 0) → QW d mMo_leftOver 0 (qen 5 [.ref 193, .int 0, .int a3]) [] (hpo X mem sw o e) (qcl d mMo_alike 179 182 (lMo_alike_182 a1 a2 a3 a4 a5 a6 a7) [] P)) : QW (d + 1) mMo_alike 163 (lMo_alike_163 a1 a2 a3 a4 a5 a6 a7) [] (hpo X mem sw o e) P := by
  show QW (d + 1) mMo_alike 163 [.val (.ref 193), .val (.int a1), .val (.int a2), .val (.int a3), .val (.int a4), .val (.int a5), .val (.int a6), .val (.int a7)] [] (hpo X mem sw o e) P
  refine QW.iload dMo_alike_163 rfl ?_
  refine QW.sipush (v := 256) dMo_alike_165 (by decide) ?_
  refine QW.icmp_ge (tgt := 227) dMo_alike_168 (by decide) (fun z0 => ?_) (fun z0 => ?_)
  · exact (k1 z0)
  · refine QW.iload dMo_alike_171 rfl ?_
    refine QW.if_ne (tgt := 227) dMo_alike_173 (by decide) (fun z1 => ?_) (fun z1 => ?_)
    · exact (k2 z0 z1)
    · refine QW.aload_n dMo_alike_176 rfl rfl ?_
      refine QW.iconst (v := 0) dMo_alike_177 (by decide) ?_
      refine QW.iload_n dMo_alike_178 rfl rfl ?_
      exact MW.calV (as := [.int 0, .int a3]) (rest := []) hX dMo_alike_179 eMo_leftOver lMo_290 iMo_leftOver vMo_leftOver rfl rfl rfl rfl rfl rfl (Nat.le_of_ble_eq_true rfl) rfl (k3 z0 z1)
theorem bMo_alike_182 {a1 : Int32} {a2 : Int32} {a3 : Int32} {a4 : Int32} {a5 : Int32} {a6 : Int32} {a7 : Int32} {s0 : Int32} (hX : X.length = 13) (k1 : QW d mMo_leftOver 0 (qen 5 [.ref 193, .int 1, .int a4]) [] (hpo X mem sw o e) (qcl d mMo_alike 186 189 (lMo_alike_189 a1 a2 a3 a4 a5 a6 a7) [.int s0] P)) : QW (d + 1) mMo_alike 182 (lMo_alike_182 a1 a2 a3 a4 a5 a6 a7) [.int s0] (hpo X mem sw o e) P := by
  show QW (d + 1) mMo_alike 182 [.val (.ref 193), .val (.int a1), .val (.int a2), .val (.int a3), .val (.int a4), .val (.int a5), .val (.int a6), .val (.int a7)] [.int s0] (hpo X mem sw o e) P
  refine QW.aload_n dMo_alike_182 rfl rfl ?_
  refine QW.iconst (v := 1) dMo_alike_183 (by decide) ?_
  refine QW.iload dMo_alike_184 rfl ?_
  exact MW.calV (as := [.int 1, .int a4]) (rest := [.int s0]) hX dMo_alike_186 eMo_leftOver lMo_290 iMo_leftOver vMo_leftOver rfl rfl rfl rfl rfl rfl (Nat.le_of_ble_eq_true rfl) rfl k1
theorem bMo_alike_189 {a1 : Int32} {a2 : Int32} {a3 : Int32} {a4 : Int32} {a5 : Int32} {a6 : Int32} {a7 : Int32} {s1 : Int32} {s0 : Int32} (hX : X.length = 13) (k1 : (¬ s0 = s1) → QW (d + 1) mMo_alike 227 (lMo_alike_227 a1 a2 a3 a4 a5 a6 a7) [] (hpo X mem sw o e) P) (k2 : (s0 = s1) → QW d mMo_isPairing 0 (qen 8 [.ref 193, .int a7, .int a3, .int a4]) [] (hpo X mem sw o e) (qcl d mMo_alike 198 201 (lMo_alike_201 a1 a2 a3 a4 a5 a6 a7) [] P)) : QW (d + 1) mMo_alike 189 (lMo_alike_189 a1 a2 a3 a4 a5 a6 a7) [.int s1, .int s0] (hpo X mem sw o e) P := by
  show QW (d + 1) mMo_alike 189 [.val (.ref 193), .val (.int a1), .val (.int a2), .val (.int a3), .val (.int a4), .val (.int a5), .val (.int a6), .val (.int a7)] [.int s1, .int s0] (hpo X mem sw o e) P
  refine QW.icmp_ne (tgt := 227) dMo_alike_189 (by decide) (fun z0 => ?_) (fun z0 => ?_)
  · exact (k1 z0)
  · refine QW.aload_n dMo_alike_192 rfl rfl ?_
    refine QW.iload dMo_alike_193 rfl ?_
    refine QW.iload_n dMo_alike_195 rfl rfl ?_
    refine QW.iload dMo_alike_196 rfl ?_
    exact MW.calV (as := [.int a7, .int a3, .int a4]) (rest := []) hX dMo_alike_198 eMo_isPairing lMo_293 iMo_isPairing vMo_isPairing rfl rfl rfl rfl rfl rfl (Nat.le_of_ble_eq_true rfl) rfl (k2 z0)
theorem bMo_alike_201 {a1 : Int32} {a2 : Int32} {a3 : Int32} {a4 : Int32} {a5 : Int32} {a6 : Int32} {a7 : Int32} {s0 : Int32} (hX : X.length = 13) (k1 : (s0 = 0) → QW (d + 1) mMo_alike 218 (lMo_alike_218 a1 a2 a3 a4 a5 a6 a7) [] (hpo X mem sw o e) P) (k2 : (¬ s0 = 0) → QW d mMo_fits 0 (qen 6 [.ref 193, .int a3, .int a4]) [] (hpo X mem sw o e) (qcl d mMo_alike 208 211 (lMo_alike_211 a1 a2 a3 a4 a5 a6 a7) [] P)) : QW (d + 1) mMo_alike 201 (lMo_alike_201 a1 a2 a3 a4 a5 a6 a7) [.int s0] (hpo X mem sw o e) P := by
  show QW (d + 1) mMo_alike 201 [.val (.ref 193), .val (.int a1), .val (.int a2), .val (.int a3), .val (.int a4), .val (.int a5), .val (.int a6), .val (.int a7)] [.int s0] (hpo X mem sw o e) P
  refine QW.if_eq (tgt := 218) dMo_alike_201 (by decide) (fun z0 => ?_) (fun z0 => ?_)
  · exact (k1 z0)
  · refine QW.aload_n dMo_alike_204 rfl rfl ?_
    refine QW.iload_n dMo_alike_205 rfl rfl ?_
    refine QW.iload dMo_alike_206 rfl ?_
    exact MW.calV (as := [.int a3, .int a4]) (rest := []) hX dMo_alike_208 eMo_fits lMo_296 iMo_fits vMo_fits rfl rfl rfl rfl rfl rfl (Nat.le_of_ble_eq_true rfl) rfl (k2 z0)
theorem bMo_alike_211 {a1 : Int32} {a2 : Int32} {a3 : Int32} {a4 : Int32} {a5 : Int32} {a6 : Int32} {a7 : Int32} {s0 : Int32} (hX : X.length = 13) (k1 : (s0 = 0) → QW d mMo_alike 218 (lMo_alike_218 a1 a2 a3 a4 a5 a6 a7) [] (hpo X mem sw o e) P) (k2 : (¬ s0 = 0) → QW d mMo_alike 219 (lMo_alike_219 a1 a2 a3 a4 a5 a6 a7) [.int 1] (hpo X mem sw o e) P) : QW d mMo_alike 211 (lMo_alike_211 a1 a2 a3 a4 a5 a6 a7) [.int s0] (hpo X mem sw o e) P := by
  show QW d mMo_alike 211 [.val (.ref 193), .val (.int a1), .val (.int a2), .val (.int a3), .val (.int a4), .val (.int a5), .val (.int a6), .val (.int a7)] [.int s0] (hpo X mem sw o e) P
  refine QW.if_eq (tgt := 218) dMo_alike_211 (by decide) (fun z0 => ?_) (fun z0 => ?_)
  · exact (k1 z0)
  · refine QW.iconst (v := 1) dMo_alike_214 (by decide) ?_
    refine QW.goto (tgt := 219) dMo_alike_215 (by decide) ?_
    exact (k2 z0)
theorem bMo_alike_218 {a1 : Int32} {a2 : Int32} {a3 : Int32} {a4 : Int32} {a5 : Int32} {a6 : Int32} {a7 : Int32} (hX : X.length = 13) (k1 : QW d mMo_alike 219 (lMo_alike_219 a1 a2 a3 a4 a5 a6 a7) [.int 0] (hpo X mem sw o e) P) : QW d mMo_alike 218 (lMo_alike_218 a1 a2 a3 a4 a5 a6 a7) [] (hpo X mem sw o e) P := by
  show QW d mMo_alike 218 [.val (.ref 193), .val (.int a1), .val (.int a2), .val (.int a3), .val (.int a4), .val (.int a5), .val (.int a6), .val (.int a7)] [] (hpo X mem sw o e) P
  refine QW.iconst (v := 0) dMo_alike_218 (by decide) ?_
  exact k1
theorem bMo_alike_219 {a1 : Int32} {a2 : Int32} {a3 : Int32} {a4 : Int32} {a5 : Int32} {a6 : Int32} {a7 : Int32} {s0 : Int32} (hX : X.length = 13) (k1 : QW d mMo_alike 163 (lMo_alike_163 a1 a2 a3 a4 a5 s0 (a7 + 1)) [] (hpo X mem sw o e) P) : QW d mMo_alike 219 (lMo_alike_219 a1 a2 a3 a4 a5 a6 a7) [.int s0] (hpo X mem sw o e) P := by
  show QW d mMo_alike 219 [.val (.ref 193), .val (.int a1), .val (.int a2), .val (.int a3), .val (.int a4), .val (.int a5), .val (.int a6), .val (.int a7)] [.int s0] (hpo X mem sw o e) P
  refine QW.istore (ls' := [.val (.ref 193), .val (.int a1), .val (.int a2), .val (.int a3), .val (.int a4), .val (.int a5), .val (.int s0), .val (.int a7)]) dMo_alike_219 rfl ?_
  refine MW.iinc (c := 1) (ls' := [.val (.ref 193), .val (.int a1), .val (.int a2), .val (.int a3), .val (.int a4), .val (.int a5), .val (.int s0), .val (.int (a7 + 1))]) dMo_alike_221 (by decide) rfl rfl ?_
  refine QW.goto (tgt := 163) dMo_alike_224 (by decide) ?_
  exact k1
theorem bMo_alike_227 {a1 : Int32} {a2 : Int32} {a3 : Int32} {a4 : Int32} {a5 : Int32} {a6 : Int32} {a7 : Int32} (hX : X.length = 13) (h1 : narrow .boolean (.int a6) = .int a6) (k2 : P (.inl (some (.int a6)), (hpo X mem sw o e))) : QW d mMo_alike 227 (lMo_alike_227 a1 a2 a3 a4 a5 a6 a7) [] (hpo X mem sw o e) P := by
  show QW d mMo_alike 227 [.val (.ref 193), .val (.int a1), .val (.int a2), .val (.int a3), .val (.int a4), .val (.int a5), .val (.int a6), .val (.int a7)] [] (hpo X mem sw o e) P
  refine QW.iload dMo_alike_227 rfl ?_
  exact QW.iret dMo_alike_229 rfl h1 k2
theorem dMo_sources_0 : decode mMo_sources.2.1 0 = .ok (.aload_n 0, 1) := by decide +kernel
theorem dMo_sources_1 : decode mMo_sources.2.1 1 = .ok (.iload_n 1, 1) := by decide +kernel
theorem dMo_sources_2 : decode mMo_sources.2.1 2 = .ok (.ifCond .lt 11, 3) := by decide +kernel
theorem dMo_sources_5 : decode mMo_sources.2.1 5 = .ok (.iload_n 1, 1) := by decide +kernel
theorem dMo_sources_6 : decode mMo_sources.2.1 6 = .ok (.aload_n 0, 1) := by decide +kernel
theorem dMo_sources_7 : decode mMo_sources.2.1 7 = .ok (.getfield 202, 3) := by decide +kernel
theorem dMo_sources_10 : decode mMo_sources.2.1 10 = .ok (.if_icmp .lt 7, 3) := by decide +kernel
theorem dMo_sources_13 : decode mMo_sources.2.1 13 = .ok (.iconst 1, 1) := by decide +kernel
theorem dMo_sources_14 : decode mMo_sources.2.1 14 = .ok (.goto 4, 3) := by decide +kernel
theorem dMo_sources_17 : decode mMo_sources.2.1 17 = .ok (.iconst 0, 1) := by decide +kernel
theorem dMo_sources_18 : decode mMo_sources.2.1 18 = .ok (.putfield 106, 3) := by decide +kernel
theorem dMo_sources_21 : decode mMo_sources.2.1 21 = .ok (.aload_n 0, 1) := by decide +kernel
theorem dMo_sources_22 : decode mMo_sources.2.1 22 = .ok (.getfield 106, 3) := by decide +kernel
theorem dMo_sources_25 : decode mMo_sources.2.1 25 = .ok (.ifCond .le 5, 3) := by decide +kernel
theorem dMo_sources_28 : decode mMo_sources.2.1 28 = .ok (.iconst 0, 1) := by decide +kernel
theorem dMo_sources_29 : decode mMo_sources.2.1 29 = .ok (.ireturn, 1) := by decide +kernel
theorem dMo_sources_30 : decode mMo_sources.2.1 30 = .ok (.aload_n 0, 1) := by decide +kernel
theorem dMo_sources_31 : decode mMo_sources.2.1 31 = .ok (.aload_n 0, 1) := by decide +kernel
theorem dMo_sources_32 : decode mMo_sources.2.1 32 = .ok (.getfield 31, 3) := by decide +kernel
theorem dMo_sources_35 : decode mMo_sources.2.1 35 = .ok (.iload_n 1, 1) := by decide +kernel
theorem dMo_sources_36 : decode mMo_sources.2.1 36 = .ok (.iaload, 1) := by decide +kernel
theorem dMo_sources_37 : decode mMo_sources.2.1 37 = .ok (.iconst 1, 1) := by decide +kernel
theorem dMo_sources_38 : decode mMo_sources.2.1 38 = .ok (.if_icmp .le 7, 3) := by decide +kernel
theorem dMo_sources_41 : decode mMo_sources.2.1 41 = .ok (.iconst 2, 1) := by decide +kernel
theorem dMo_sources_42 : decode mMo_sources.2.1 42 = .ok (.goto 4, 3) := by decide +kernel
theorem dMo_sources_45 : decode mMo_sources.2.1 45 = .ok (.iconst 0, 1) := by decide +kernel
theorem dMo_sources_46 : decode mMo_sources.2.1 46 = .ok (.putfield 106, 3) := by decide +kernel
theorem dMo_sources_49 : decode mMo_sources.2.1 49 = .ok (.aload_n 0, 1) := by decide +kernel
theorem dMo_sources_50 : decode mMo_sources.2.1 50 = .ok (.getfield 106, 3) := by decide +kernel
theorem dMo_sources_53 : decode mMo_sources.2.1 53 = .ok (.ifCond .le 5, 3) := by decide +kernel
theorem dMo_sources_56 : decode mMo_sources.2.1 56 = .ok (.iconst 0, 1) := by decide +kernel
theorem dMo_sources_57 : decode mMo_sources.2.1 57 = .ok (.ireturn, 1) := by decide +kernel
theorem dMo_sources_58 : decode mMo_sources.2.1 58 = .ok (.aload_n 0, 1) := by decide +kernel
theorem dMo_sources_59 : decode mMo_sources.2.1 59 = .ok (.iconst 0, 1) := by decide +kernel
theorem dMo_sources_60 : decode mMo_sources.2.1 60 = .ok (.iconst 3, 1) := by decide +kernel
theorem dMo_sources_61 : decode mMo_sources.2.1 61 = .ok (.iload_n 1, 1) := by decide +kernel
theorem dMo_sources_62 : decode mMo_sources.2.1 62 = .ok (.imul, 1) := by decide +kernel
theorem dMo_sources_63 : decode mMo_sources.2.1 63 = .ok (.invokevirtual 284, 3) := by decide +kernel
theorem dMo_sources_66 : decode mMo_sources.2.1 66 = .ok (.aload_n 0, 1) := by decide +kernel
theorem dMo_sources_67 : decode mMo_sources.2.1 67 = .ok (.iconst 0, 1) := by decide +kernel
theorem dMo_sources_68 : decode mMo_sources.2.1 68 = .ok (.iconst 3, 1) := by decide +kernel
theorem dMo_sources_69 : decode mMo_sources.2.1 69 = .ok (.iload_n 1, 1) := by decide +kernel
theorem dMo_sources_70 : decode mMo_sources.2.1 70 = .ok (.imul, 1) := by decide +kernel
theorem dMo_sources_71 : decode mMo_sources.2.1 71 = .ok (.invokevirtual 287, 3) := by decide +kernel
theorem dMo_sources_74 : decode mMo_sources.2.1 74 = .ok (.ifCond .eq 7, 3) := by decide +kernel
theorem dMo_sources_77 : decode mMo_sources.2.1 77 = .ok (.iconst 0, 1) := by decide +kernel
theorem dMo_sources_78 : decode mMo_sources.2.1 78 = .ok (.goto 11, 3) := by decide +kernel
theorem dMo_sources_81 : decode mMo_sources.2.1 81 = .ok (.aload_n 0, 1) := by decide +kernel
theorem dMo_sources_82 : decode mMo_sources.2.1 82 = .ok (.iconst 0, 1) := by decide +kernel
theorem dMo_sources_83 : decode mMo_sources.2.1 83 = .ok (.iconst 3, 1) := by decide +kernel
theorem dMo_sources_84 : decode mMo_sources.2.1 84 = .ok (.iload_n 1, 1) := by decide +kernel
theorem dMo_sources_85 : decode mMo_sources.2.1 85 = .ok (.imul, 1) := by decide +kernel
theorem dMo_sources_86 : decode mMo_sources.2.1 86 = .ok (.invokevirtual 290, 3) := by decide +kernel
theorem dMo_sources_89 : decode mMo_sources.2.1 89 = .ok (.ireturn, 1) := by decide +kernel
def lMo_sources_13 (a1 : Int32) : List Slot := [.val (.ref 193), .val (.int a1)]
def lMo_sources_18 (a1 : Int32) : List Slot := [.val (.ref 193), .val (.int a1)]
def lMo_sources_46 (a1 : Int32) : List Slot := [.val (.ref 193), .val (.int a1)]
def lMo_sources_66 (a1 : Int32) : List Slot := [.val (.ref 193), .val (.int a1)]
def lMo_sources_74 (a1 : Int32) : List Slot := [.val (.ref 193), .val (.int a1)]
def lMo_sources_89 (a1 : Int32) : List Slot := [.val (.ref 193), .val (.int a1)]
theorem bMo_sources_0 {a1 : Int32} (hX : X.length = 13) (k1 : (a1 < 0) → QW d mMo_sources 13 (lMo_sources_13 a1) [.ref 193] (hpo X mem sw o e) P) (k2 : (¬ a1 < 0) → (a1 < (mem 193 13)) → QW d mMo_sources 18 (lMo_sources_18 a1) [.int 0, .ref 193] (hpo X mem sw o e) P) (k3 : (¬ a1 < 0) → (¬ a1 < (mem 193 13)) → QW d mMo_sources 13 (lMo_sources_13 a1) [.ref 193] (hpo X mem sw o e) P) : QW d mMo_sources 0 (qen 2 [.ref 193, .int a1]) [] (hpo X mem sw o e) P := by
  show QW d mMo_sources 0 [.val (.ref 193), .val (.int a1)] [] (hpo X mem sw o e) P
  refine QW.aload_n dMo_sources_0 rfl rfl ?_
  refine QW.iload_n dMo_sources_1 rfl rfl ?_
  refine QW.if_lt (tgt := 13) dMo_sources_2 (by decide) (fun z0 => ?_) (fun z0 => ?_)
  · exact (k1 z0)
  · refine QW.iload_n dMo_sources_5 rfl rfl ?_
    refine QW.aload_n dMo_sources_6 rfl rfl ?_
    refine MW.geti hX dMo_sources_7 fMo_202 rfl rfl ?_
    refine QW.icmp_lt (tgt := 17) dMo_sources_10 (by decide) (fun z1 => ?_) (fun z1 => ?_)
    · refine QW.iconst (v := 0) dMo_sources_17 (by decide) ?_
      exact (k2 z0 z1)
    · exact (k3 z0 z1)
theorem bMo_sources_13 {a1 : Int32} (hX : X.length = 13) (k1 : QW d mMo_sources 18 (lMo_sources_18 a1) [.int 1, .ref 193] (hpo X mem sw o e) P) : QW d mMo_sources 13 (lMo_sources_13 a1) [.ref 193] (hpo X mem sw o e) P := by
  show QW d mMo_sources 13 [.val (.ref 193), .val (.int a1)] [.ref 193] (hpo X mem sw o e) P
  refine QW.iconst (v := 1) dMo_sources_13 (by decide) ?_
  refine QW.goto (tgt := 18) dMo_sources_14 (by decide) ?_
  exact k1
theorem bMo_sources_18 {a1 : Int32} {s1 : Int32} (hX : X.length = 13) (h1 : (((mup mem 193 0 s1) 193 0) ≤ 0) → inx a1 5) (k2 : (((mup mem 193 0 s1) 193 0) ≤ 0) → (((mup mem 193 0 s1) 199 (Int32.toNatClampNeg a1)) ≤ 1) → QW d mMo_sources 46 (lMo_sources_46 a1) [.int 0, .ref 193] (hpo X (mup mem 193 0 s1) sw o e) P) (k3 : (((mup mem 193 0 s1) 193 0) ≤ 0) → (¬ ((mup mem 193 0 s1) 199 (Int32.toNatClampNeg a1)) ≤ 1) → QW d mMo_sources 46 (lMo_sources_46 a1) [.int 2, .ref 193] (hpo X (mup mem 193 0 s1) sw o e) P) (k4 : (¬ ((mup mem 193 0 s1) 193 0) ≤ 0) → P (.inl (some (.int 0)), (hpo X (mup mem 193 0 s1) sw o e))) : QW d mMo_sources 18 (lMo_sources_18 a1) [.int s1, .ref 193] (hpo X mem sw o e) P := by
  show QW d mMo_sources 18 [.val (.ref 193), .val (.int a1)] [.int s1, .ref 193] (hpo X mem sw o e) P
  refine MW.puti hX dMo_sources_18 fMo_106 rfl rfl rfl ?_
  refine QW.aload_n dMo_sources_21 rfl rfl ?_
  refine MW.geti hX dMo_sources_22 fMo_106 rfl rfl ?_
  refine QW.if_le (tgt := 30) dMo_sources_25 (by decide) (fun z0 => ?_) (fun z0 => ?_)
  · refine QW.aload_n dMo_sources_30 rfl rfl ?_
    refine QW.aload_n dMo_sources_31 rfl rfl ?_
    refine MW.getr (r' := 199) hX dMo_sources_32 fMo_31 rfl rfl (by cases sw <;> rfl) ?_
    refine QW.iload_n dMo_sources_35 rfl rfl ?_
    refine MW.iald hX dMo_sources_36 rfl (h1 z0).1 (rep_get (h1 z0).2) ?_
    refine QW.iconst (v := 1) dMo_sources_37 (by decide) ?_
    refine QW.icmp_le (tgt := 45) dMo_sources_38 (by decide) (fun z1 => ?_) (fun z1 => ?_)
    · refine QW.iconst (v := 0) dMo_sources_45 (by decide) ?_
      exact (k2 z0 z1)
    · refine QW.iconst (v := 2) dMo_sources_41 (by decide) ?_
      refine QW.goto (tgt := 46) dMo_sources_42 (by decide) ?_
      exact (k3 z0 z1)
  · refine QW.iconst (v := 0) dMo_sources_28 (by decide) ?_
    exact QW.iret dMo_sources_29 rfl rfl (k4 z0)
theorem bMo_sources_46 {a1 : Int32} {s1 : Int32} (hX : X.length = 13) (k1 : (((mup mem 193 0 s1) 193 0) ≤ 0) → QW d mMo_form 0 (qen 6 [.ref 193, .int 0, .int (3 * a1)]) [] (hpo X (mup mem 193 0 s1) sw o e) (qcl d mMo_sources 63 66 (lMo_sources_66 a1) [] P)) (k2 : (¬ ((mup mem 193 0 s1) 193 0) ≤ 0) → P (.inl (some (.int 0)), (hpo X (mup mem 193 0 s1) sw o e))) : QW (d + 1) mMo_sources 46 (lMo_sources_46 a1) [.int s1, .ref 193] (hpo X mem sw o e) P := by
  show QW (d + 1) mMo_sources 46 [.val (.ref 193), .val (.int a1)] [.int s1, .ref 193] (hpo X mem sw o e) P
  refine MW.puti hX dMo_sources_46 fMo_106 rfl rfl rfl ?_
  refine QW.aload_n dMo_sources_49 rfl rfl ?_
  refine MW.geti hX dMo_sources_50 fMo_106 rfl rfl ?_
  refine QW.if_le (tgt := 58) dMo_sources_53 (by decide) (fun z0 => ?_) (fun z0 => ?_)
  · refine QW.aload_n dMo_sources_58 rfl rfl ?_
    refine QW.iconst (v := 0) dMo_sources_59 (by decide) ?_
    refine QW.iconst (v := 3) dMo_sources_60 (by decide) ?_
    refine QW.iload_n dMo_sources_61 rfl rfl ?_
    refine QW.imul dMo_sources_62 ?_
    exact MW.calV (as := [.int 0, .int (3 * a1)]) (rest := []) hX dMo_sources_63 eMo_form lMo_284 iMo_form vMo_form rfl rfl rfl rfl rfl rfl (Nat.le_of_ble_eq_true rfl) rfl (k1 z0)
  · refine QW.iconst (v := 0) dMo_sources_56 (by decide) ?_
    exact QW.iret dMo_sources_57 rfl rfl (k2 z0)
theorem bMo_sources_66 {a1 : Int32} (hX : X.length = 13) (k1 : QW d mMo_isEmpty 0 (qen 9 [.ref 193, .int 0, .int (3 * a1)]) [] (hpo X mem sw o e) (qcl d mMo_sources 71 74 (lMo_sources_74 a1) [] P)) : QW (d + 1) mMo_sources 66 (lMo_sources_66 a1) [] (hpo X mem sw o e) P := by
  show QW (d + 1) mMo_sources 66 [.val (.ref 193), .val (.int a1)] [] (hpo X mem sw o e) P
  refine QW.aload_n dMo_sources_66 rfl rfl ?_
  refine QW.iconst (v := 0) dMo_sources_67 (by decide) ?_
  refine QW.iconst (v := 3) dMo_sources_68 (by decide) ?_
  refine QW.iload_n dMo_sources_69 rfl rfl ?_
  refine QW.imul dMo_sources_70 ?_
  exact MW.calV (as := [.int 0, .int (3 * a1)]) (rest := []) hX dMo_sources_71 eMo_isEmpty lMo_287 iMo_isEmpty vMo_isEmpty rfl rfl rfl rfl rfl rfl (Nat.le_of_ble_eq_true rfl) rfl k1
theorem bMo_sources_74 {a1 : Int32} {s0 : Int32} (hX : X.length = 13) (k1 : (s0 = 0) → QW d mMo_leftOver 0 (qen 5 [.ref 193, .int 0, .int (3 * a1)]) [] (hpo X mem sw o e) (qcl d mMo_sources 86 89 (lMo_sources_89 a1) [] P)) (k2 : (¬ s0 = 0) → QW (d + 1) mMo_sources 89 (lMo_sources_89 a1) [.int 0] (hpo X mem sw o e) P) : QW (d + 1) mMo_sources 74 (lMo_sources_74 a1) [.int s0] (hpo X mem sw o e) P := by
  show QW (d + 1) mMo_sources 74 [.val (.ref 193), .val (.int a1)] [.int s0] (hpo X mem sw o e) P
  refine QW.if_eq (tgt := 81) dMo_sources_74 (by decide) (fun z0 => ?_) (fun z0 => ?_)
  · refine QW.aload_n dMo_sources_81 rfl rfl ?_
    refine QW.iconst (v := 0) dMo_sources_82 (by decide) ?_
    refine QW.iconst (v := 3) dMo_sources_83 (by decide) ?_
    refine QW.iload_n dMo_sources_84 rfl rfl ?_
    refine QW.imul dMo_sources_85 ?_
    exact MW.calV (as := [.int 0, .int (3 * a1)]) (rest := []) hX dMo_sources_86 eMo_leftOver lMo_290 iMo_leftOver vMo_leftOver rfl rfl rfl rfl rfl rfl (Nat.le_of_ble_eq_true rfl) rfl (k1 z0)
  · refine QW.iconst (v := 0) dMo_sources_77 (by decide) ?_
    refine QW.goto (tgt := 89) dMo_sources_78 (by decide) ?_
    exact (k2 z0)
theorem bMo_sources_89 {a1 : Int32} {s0 : Int32} (hX : X.length = 13) (k1 : P (.inl (some (.int s0)), (hpo X mem sw o e))) : QW d mMo_sources 89 (lMo_sources_89 a1) [.int s0] (hpo X mem sw o e) P := by
  show QW d mMo_sources 89 [.val (.ref 193), .val (.int a1)] [.int s0] (hpo X mem sw o e) P
  exact QW.iret dMo_sources_89 rfl rfl k1
end BLK

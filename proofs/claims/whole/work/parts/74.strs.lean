section SROW
variable {l : Launch} {s0 : State} {a0 : Array Value} {A : qA} {M : qM} {d n0 : Nat} {p : Program} {R : Room} {s : State} {m : MethodId} {meth : Method} {c : Code} {h : qH} {H : Heap} {locs : List Loc}
theorem q_vS (I : qIn l s0 a0 A M d n0 p R s m meth c) (S : qSt A s0 n0 h H locs) : va_S (fun q => s0.heap.size ≤ q) s.heap H locs := by
  have e0 : A.1 A.2.2 = s0.heap.size := I.glob.2.2.2.1
  refine ⟨?_, fun q hq hn => ?_, fun q hq => ?_⟩
  · have h1 : s.heap.size = A.1 n0 := I.2.2.2.2.2.2.2.2.2.2.2.1
    have h2 : H.size = A.1 h.length := S.1.1
    rw [h1, h2]
    rcases Nat.eq_or_lt_of_le S.2.2.2.1 with h3 | h3
    · rw [h3]; exact Nat.le_refl _
    · exact Nat.le_of_lt (I.ad.2 _ _ h3 S.1.2.1 (q_cap S.2.2.2.2))
  · have hn : q < s0.heap.size := Nat.not_le.mp hn
    rw [S.2.1 q (by rw [e0]; exact hn), I.heap0 q hn]
  · have := S.2.2.1 q hq
    rw [e0] at this
    exact this
theorem q_vK (I : qIn l s0 a0 A M d n0 p R s m meth c) : vk_S 6 qsn qsw (fun i => A.1 (30001 + i)) (fun i => A.1 (30007 + i)) (fun q => s0.heap.size ≤ q) s s.heap :=
  (vk_S.moved I.warm.alike I.glob.2.2.2.2.2.2.2.2.1).kept (fun a ha _ => I.heap0 a ha)
theorem q_vZ (I : qIn l s0 a0 A M d n0 p R s m meth c) {C n t : String} {v : Value} (hl : Cond.laysStatic C n t ∈ lw_tbl) (hi : Cond.initialized C ∈ lw_tbl) (hv : (Term.static C n t).eval a0 s0 none [] s0 = some v) : va_Z C n t v (fun q => s0.heap.size ≤ q) s s.heap :=
  (va_Z.moved I.warm.alike (va_Zof (I.glob.1 _ hl) (I.glob.1 _ hi) hv (fun a ha => Nat.not_le.mpr ha))).kept (fun a ha _ => I.heap0 a ha)
end SROW
theorem q_s20 : Cond.initialized "java/lang/String" ∈ lw_tbl := q_tw 20 (by decide +kernel)
theorem q_s22 : Cond.initialized "jdk/internal/util/Preconditions" ∈ lw_tbl := q_tw 22 (by decide +kernel)
theorem q_s610 : Cond.fieldLink "java/lang/String" 38 "java/lang/String" "COMPACT_STRINGS" "Z" ∈ lw_tbl := q_tw 610 (by decide +kernel)
theorem q_s611 : Cond.laysStatic "java/lang/String" "COMPACT_STRINGS" "Z" ∈ lw_tbl := q_tw 611 (by decide +kernel)
theorem q_s626 : Cond.fieldLink "java/lang/String" 1053 "jdk/internal/util/Preconditions" "SIOOBE_FORMATTER" "Ljava/util/function/BiFunction;" ∈ lw_tbl := q_tw 626 (by decide +kernel)
theorem q_s627 : Cond.laysStatic "jdk/internal/util/Preconditions" "SIOOBE_FORMATTER" "Ljava/util/function/BiFunction;" ∈ lw_tbl := q_tw 627 (by decide +kernel)
theorem q_s1447 : Cond.fieldLink "java/lang/String" 9 "java/lang/String" "value" "[B" ∈ lw_tbl := q_tw 1447 (by decide +kernel)
theorem q_s1448 : Cond.fieldLink "java/lang/String" 15 "java/lang/String" "coder" "B" ∈ lw_tbl := q_tw 1448 (by decide +kernel)
theorem q_sCS : Cond.eq (.static "java/lang/String" "COMPACT_STRINGS" "Z") (.int 1) ∈ flatC qGv := by decide +kernel
section SQW
variable {d : Nat} {M M2 : qM} {pc idx i : Nat} {ls : List Slot} {st as rest : List Value} {h : qH} {P P1 : qE → Prop}
theorem QW.i2b {x : Int32} (hd : decode M.2.1 pc = .ok (.i2b, 1)) (kk : QW d M (pc + 1) ls (.int x.toInt8.toInt32 :: st) h P) : QW d M pc ls (.int x :: st) h P := by
  intro l s0 a0 A n0 p e R s m args below meth c H locs I S
  exact lv_i2b I.1 I.2.1 hd rfl (kk I S)
theorem QW.ldcS {tx : String} (hi : i < 6) (hd : decode M.2.1 pc = .ok (.ldc idx, 2)) (hM : M.1.cls = "BagPlanner$Tokens") (hx : qsx.getD i 0 = idx) (hw : Cond.stringRef "BagPlanner$Tokens" idx tx ∈ lw_tbl) (kk : QW d M (pc + 2) ls (.ref (30001 + i) :: st) h P) : QW d M pc ls st h P := by
  intro l s0 a0 A n0 p e R s m args below meth c H locs I S
  have hq := I.glob.2.2.2.2.2.2.2.2.2.1 i hi
  subst hx
  have hZ : vk_R M.1.cls (qsx.getD i 0) tx (A.1 (30001 + i)) s := by rw [hM]; exact vk_R.warm I.warm (vk_R.of (I.glob.1 _ hw) hq)
  exact va_ldcS I.1 I.2.1 I.own hZ hd (kk I S)
theorem QW.sval (hi : i < 6) (hd : decode M.2.1 pc = .ok (.getfield 9, 3)) (hM : M.1.cls = "java/lang/String") (kk : QW d M (pc + 3) ls (.ref (30007 + i) :: st) h P) : QW d M pc ls (.ref (30001 + i) :: st) h P := by
  intro l s0 a0 A n0 p e R s m args below meth c H locs I S
  exact vk_getf I.1 I.2.1 ((q_vK I).1 i hi).2.2.1 (q_vS I S) I.own (by rw [hM]; exact I.word q_s1447 (Or.inl rfl)) (fun x h => h) hd (kk I S)
theorem QW.scod (hi : i < 6) (hd : decode M.2.1 pc = .ok (.getfield 15, 3)) (hM : M.1.cls = "java/lang/String") (kk : QW d M (pc + 3) ls (.int 0 :: st) h P) : QW d M pc ls (.ref (30001 + i) :: st) h P := by
  intro l s0 a0 A n0 p e R s m args below meth c H locs I S
  exact vk_getf I.1 I.2.1 ((q_vK I).1 i hi).2.1 (q_vS I S) I.own (by rw [hM]; exact I.word q_s1448 (Or.inl rfl)) (fun x h => h) hd (kk I S)
theorem QW.slen (hi : i < 6) (hd : decode M.2.1 pc = .ok (.arraylength, 1)) (kk : QW d M (pc + 1) ls (.int (Int32.ofNat (qsn.getD i 0)) :: st) h P) : QW d M pc ls (.ref (30007 + i) :: st) h P := by
  intro l s0 a0 A n0 p e R s m args below meth c H locs I S
  exact va_tlen I.1 I.2.1 ((q_vK I).1 i hi).2.2.2 (q_vS I S) rfl hd (kk I S)
theorem QW.sbyt {x : Int32} (hi : i < 6) (hd : decode M.2.1 pc = .ok (.baload, 1)) (hx : ¬ x < 0) (hx2 : x.toNatClampNeg < qsn.getD i 0) (kk : QW d M (pc + 1) ls (.int ((qsw.getD i []).getD x.toNatClampNeg 0) :: st) h P) : QW d M pc ls (.int x :: .ref (30007 + i) :: st) h P := by
  intro l s0 a0 A n0 p e R s m args below meth c H locs I S
  exact va_tb I.1 I.2.1 ((q_vK I).1 i hi).2.2.2 (q_vS I S) (fun z => by rcases z with z | z; exact hx z; omega) rfl hd (kk I S)
theorem QW.gcs (hd : decode M.2.1 pc = .ok (.getstatic 38, 3)) (hM : M.1.cls = "java/lang/String") (kk : QW d M (pc + 3) ls (.int 1 :: st) h P) : QW d M pc ls st h P := by
  intro l s0 a0 A n0 p e R s m args below meth c H locs I S
  exact va_gets I.1 I.2.1 (q_vZ I q_s611 q_s20 (va_eqi (flat_of_before _ I.glob.2.2.2.2.2.2.2.1 _ q_sCS))) (q_vS I S) I.own (by rw [hM]; exact I.word q_s610 (Or.inl rfl)) (fun x h => h) hd (kk I S)
theorem QW.gff (hd : decode M.2.1 pc = .ok (.getstatic 1053, 3)) (hM : M.1.cls = "java/lang/String") (k0 : QW d M (pc + 3) ls (.null :: st) h P) (k1 : QW d M (pc + 3) ls (.ref 30000 :: st) h P) : QW d M pc ls st h P := by
  intro l s0 a0 A n0 p e R s m args below meth c H locs I S
  rcases I.glob.2.2.2.2.2.2.2.2.2.2 with hv | hv
  · exact va_gets I.1 I.2.1 (q_vZ I q_s627 q_s22 hv) (q_vS I S) I.own (by rw [hM]; exact I.word q_s626 (Or.inl rfl)) (fun x h => h) hd (k0 I S)
  · exact va_gets I.1 I.2.1 (q_vZ I q_s627 q_s22 hv) (q_vS I S) I.own (by rw [hM]; exact I.word q_s626 (Or.inl rfl)) (fun x h => h) hd (k1 I S)
theorem QW.callVS (h6 : i < 6) (hd : decode M.2.1 pc = .ok (.invokevirtual idx, 3)) (hm : qme M2) (hl : Cond.methodLink M.1.cls idx M2.1 ∈ lw_tbl) (hi : Cond.instanceMethod M2.1 ∈ lw_tbl) (hse : Cond.selects M2.1.cls M2.1 M2.1 ∈ lw_tbl) (hn : qnp M2 = some as.length) (hst : st = as.reverse ++ .ref (30001 + i) :: rest) (hqc : M2.1.cls = "java/lang/String") (hls : ls.length = M.2.2.1) (hw : (rest.map fun v => v.category).sum ≤ 20)
    (hC : QW d M2 0 (qen M2.2.2.1 (.ref (30001 + i) :: as)) [] h P1) (hr : ∀ v h', P1 (.inl v, h') → QW (d + 1) M (pc + 3) ls (v.toList ++ rest) h' P) (ht : ∀ a h', P1 (.inr a, h') → QT (d + 1) M pc ls a h' P) : QW (d + 1) M pc ls st h P := by
  intro l s0 a0 A n0 p e R s m args below meth c H locs I S T hT X
  subst hst
  obtain ⟨mk, methk, ck, kk, g1, g2, g3, g4, g5⟩ := q_meth I hm
  obtain ⟨mk', methk', g1', g2', hstM, habM⟩ := Cond.instanceMethod_spec (I.word hi (Or.inl rfl) (a' := args))
  cases g1.symm.trans g1'
  cases g2.1.symm.trans g2'
  obtain ⟨cellB, d1, d4, d5⟩ := vk_recv (q_vK I) h6 (q_vS I S)
  have hcls : s.vm.findClass M2.1.cls = some cellB.cls := by rw [hqc]; exact d5
  obtain ⟨c2, r2, m2, q1, q2, q3, q4, kP, hkP, hkPi⟩ := Cond.selects_spec (I.word hse (Or.inl rfl) (a' := args))
  cases hcls.symm.trans q1
  cases (State.methodFound?_of_named g1 hm.2.2.1).symm.trans q2
  cases g1.symm.trans q3
  have hselP : selectMethod e.platform s.vm cellB.cls mk = .method mk := by rw [Launch.admits_selectMethod X.admits]; exact q4
  have hlen := q_vlen (ad := A.1) hn g3 rfl
  have hstk : qvs A.1 (as.reverse ++ .ref (30001 + i) :: rest) = (qvs A.1 as).reverse ++ .ref (A.1 (30001 + i)) :: qvs A.1 rest := by simp [qvs, qv]
  have hTc : T.heap[A.1 (30001 + i)]? = some cellB := by rw [hT]; exact d1
  obtain ⟨vm', X', hgo⟩ := X.invokevirtual I.1 I.own (I.word hl (Or.inl rfl)) g1 g2.1 hstM hkP hkPi hm.2.2.1 (a := A.1 (30001 + i)) (cell := cellB) hTc (q_nst d4) hselP g2.1 habM hkP hkPi (g := F0 m pc (qls A.1 ls) (qvs A.1 (as.reverse ++ .ref (30001 + i) :: rest))) rfl (argsL := qvs A.1 as) (rest := qvs A.1 rest) hlen hstk (by rw [I.2.1]; exact hd)
  obtain ⟨t, b1, b2⟩ := q_go I S (by exact hT) X' hd hls hw (g2.to X'.warmed) hm.2.1 hC hr ht
  exact ⟨t, hgo t b1, b2⟩
end SQW
theorem eJS_length : qme mJString_length := ⟨by decide +kernel, by decide, ⟨by decide, by decide⟩, Or.inl ⟨q_tw 605 (by decide +kernel), rfl⟩, q_tw 20 (by decide +kernel)⟩
theorem iJS_length : Cond.instanceMethod mJString_length.1 ∈ lw_tbl := q_tw 603 (by decide +kernel)
theorem vJS_length : Cond.selects mJString_length.1.cls mJString_length.1 mJString_length.1 ∈ lw_tbl := q_tw 604 (by decide +kernel)
theorem eJS_coder : qme mJString_coder := ⟨by decide +kernel, by decide, ⟨by decide, by decide⟩, Or.inl ⟨q_tw 609 (by decide +kernel), rfl⟩, q_tw 20 (by decide +kernel)⟩
theorem iJS_coder : Cond.instanceMethod mJString_coder.1 ∈ lw_tbl := q_tw 607 (by decide +kernel)
theorem vJS_coder : Cond.selects mJString_coder.1.cls mJString_coder.1 mJString_coder.1 ∈ lw_tbl := q_tw 608 (by decide +kernel)
theorem eJS_charAt : qme mJString_charAt := ⟨by decide +kernel, by decide, ⟨by decide, by decide⟩, Or.inl ⟨q_tw 615 (by decide +kernel), rfl⟩, q_tw 20 (by decide +kernel)⟩
theorem iJS_charAt : Cond.instanceMethod mJString_charAt.1 ∈ lw_tbl := q_tw 613 (by decide +kernel)
theorem vJS_charAt : Cond.selects mJString_charAt.1.cls mJString_charAt.1 mJString_charAt.1 ∈ lw_tbl := q_tw 614 (by decide +kernel)
theorem eJS_isLatin1 : qme mJString_isLatin1 := ⟨by decide +kernel, by decide, ⟨by decide, by decide⟩, Or.inl ⟨q_tw 619 (by decide +kernel), rfl⟩, q_tw 20 (by decide +kernel)⟩
theorem iJS_isLatin1 : Cond.instanceMethod mJString_isLatin1.1 ∈ lw_tbl := q_tw 617 (by decide +kernel)
theorem vJS_isLatin1 : Cond.selects mJString_isLatin1.1.cls mJString_isLatin1.1 mJString_isLatin1.1 ∈ lw_tbl := q_tw 618 (by decide +kernel)
theorem eJS_indexOf : qme mJString_indexOf := ⟨by decide +kernel, by decide, ⟨by decide, by decide⟩, Or.inl ⟨q_tw 666 (by decide +kernel), rfl⟩, q_tw 20 (by decide +kernel)⟩
theorem iJS_indexOf : Cond.instanceMethod mJString_indexOf.1 ∈ lw_tbl := q_tw 664 (by decide +kernel)
theorem vJS_indexOf : Cond.selects mJString_indexOf.1.cls mJString_indexOf.1 mJString_indexOf.1 ∈ lw_tbl := q_tw 665 (by decide +kernel)
theorem eJS_indexOf2 : qme mJString_indexOf2 := ⟨by decide +kernel, by decide, ⟨by decide, by decide⟩, Or.inl ⟨q_tw 670 (by decide +kernel), rfl⟩, q_tw 20 (by decide +kernel)⟩
theorem iJS_indexOf2 : Cond.instanceMethod mJString_indexOf2.1 ∈ lw_tbl := q_tw 668 (by decide +kernel)
theorem vJS_indexOf2 : Cond.selects mJString_indexOf2.1.cls mJString_indexOf2.1 mJString_indexOf2.1 ∈ lw_tbl := q_tw 669 (by decide +kernel)
theorem eJL_charAt : qme mJStringLatin1_charAt := ⟨by decide +kernel, by decide, ⟨by decide, by decide⟩, Or.inl ⟨q_tw 622 (by decide +kernel), rfl⟩, q_tw 21 (by decide +kernel)⟩
theorem sJL_charAt : Cond.static mJStringLatin1_charAt.1 ∈ lw_tbl := q_tw 621 (by decide +kernel)
theorem eJS_checkIndex : qme mJString_checkIndex := ⟨by decide +kernel, by decide, ⟨by decide, by decide⟩, Or.inl ⟨q_tw 625 (by decide +kernel), rfl⟩, q_tw 20 (by decide +kernel)⟩
theorem sJS_checkIndex : Cond.static mJString_checkIndex.1 ∈ lw_tbl := q_tw 624 (by decide +kernel)
theorem eJP_checkIndex : qme mjdk_internal_util_Preconditions_checkIndex := ⟨by decide +kernel, by decide, ⟨by decide, by decide⟩, Or.inl ⟨q_tw 630 (by decide +kernel), rfl⟩, q_tw 22 (by decide +kernel)⟩
theorem sJP_checkIndex : Cond.static mjdk_internal_util_Preconditions_checkIndex.1 ∈ lw_tbl := q_tw 629 (by decide +kernel)
theorem eJL_indexOf : qme mJStringLatin1_indexOf := ⟨by decide +kernel, by decide, ⟨by decide, by decide⟩, Or.inl ⟨q_tw 674 (by decide +kernel), rfl⟩, q_tw 21 (by decide +kernel)⟩
theorem sJL_indexOf : Cond.static mJStringLatin1_indexOf.1 ∈ lw_tbl := q_tw 673 (by decide +kernel)
theorem eJL_canEncode : qme mJStringLatin1_canEncode := ⟨by decide +kernel, by decide, ⟨by decide, by decide⟩, Or.inl ⟨q_tw 677 (by decide +kernel), rfl⟩, q_tw 21 (by decide +kernel)⟩
theorem sJL_canEncode : Cond.static mJStringLatin1_canEncode.1 ∈ lw_tbl := q_tw 676 (by decide +kernel)
theorem eJL_indexOfChar : qme mJStringLatin1_indexOfChar := ⟨by decide +kernel, by decide, ⟨by decide, by decide⟩, Or.inl ⟨q_tw 686 (by decide +kernel), rfl⟩, q_tw 21 (by decide +kernel)⟩
theorem sJL_indexOfChar : Cond.static mJStringLatin1_indexOfChar.1 ∈ lw_tbl := q_tw 685 (by decide +kernel)
theorem kJ_606 : Cond.methodLink "java/lang/String" 335 mJString_coder.1 ∈ lw_tbl := q_tw 606 (by decide +kernel)
theorem kJ_616 : Cond.methodLink "java/lang/String" 492 mJString_isLatin1.1 ∈ lw_tbl := q_tw 616 (by decide +kernel)
theorem kJ_671 : Cond.methodLink "java/lang/String" 505 mJString_length.1 ∈ lw_tbl := q_tw 671 (by decide +kernel)
theorem kJ_667 : Cond.methodLink "java/lang/String" 633 mJString_indexOf2.1 ∈ lw_tbl := q_tw 667 (by decide +kernel)
theorem kJ_602 : Cond.methodLink "BagPlanner$Text" 27 mJString_length.1 ∈ lw_tbl := q_tw 602 (by decide +kernel)
theorem kJ_612 : Cond.methodLink "BagPlanner$Text" 32 mJString_charAt.1 ∈ lw_tbl := q_tw 612 (by decide +kernel)
theorem kJ_663 : Cond.methodLink "BagPlanner$Tokens" 59 mJString_indexOf.1 ∈ lw_tbl := q_tw 663 (by decide +kernel)
theorem kJ_620 : qlk "java/lang/String" 495 mJStringLatin1_charAt := Or.inl (q_tw 620 (by decide +kernel))
theorem kJ_623 : qlk "java/lang/StringLatin1" 9 mJString_checkIndex := Or.inl (q_tw 623 (by decide +kernel))
theorem kJ_628 : qlk "java/lang/String" 1059 mjdk_internal_util_Preconditions_checkIndex := Or.inl (q_tw 628 (by decide +kernel))
theorem kJ_672 : qlk "java/lang/String" 637 mJStringLatin1_indexOf := Or.inl (q_tw 672 (by decide +kernel))
theorem kJ_675 : qlk "java/lang/StringLatin1" 88 mJStringLatin1_canEncode := Or.inl (q_tw 675 (by decide +kernel))
theorem kJ_684 : qlk "java/lang/StringLatin1" 95 mJStringLatin1_indexOfChar := Or.inl (q_tw 684 (by decide +kernel))
theorem kJ_678 : Cond.methodLink "java/lang/StringLatin1" 92 Lib.Math.max.name ∈ lw_tbl := q_tw 678 (by decide +kernel)
theorem kJ_681 : Cond.methodLink "java/lang/StringLatin1" 38 Lib.Math.min.name ∈ lw_tbl := q_tw 681 (by decide +kernel)
theorem kJ_s57 : Cond.stringRef "BagPlanner$Tokens" 57 "=<,.+-^" ∈ lw_tbl := q_tw 662 (by decide +kernel)
theorem kJ_s65 : Cond.stringRef "BagPlanner$Tokens" 65 "set" ∈ lw_tbl := q_tw 597 (by decide +kernel)
theorem kJ_s71 : Cond.stringRef "BagPlanner$Tokens" 71 "out" ∈ lw_tbl := q_tw 650 (by decide +kernel)
theorem kJ_s73 : Cond.stringRef "BagPlanner$Tokens" 73 "of" ∈ lw_tbl := q_tw 651 (by decide +kernel)
theorem kJ_s75 : Cond.stringRef "BagPlanner$Tokens" 75 "where" ∈ lw_tbl := q_tw 652 (by decide +kernel)
theorem kJ_s77 : Cond.stringRef "BagPlanner$Tokens" 77 "and" ∈ lw_tbl := q_tw 653 (by decide +kernel)

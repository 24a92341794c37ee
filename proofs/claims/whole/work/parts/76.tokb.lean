/-- the characters from f up to t are the i-th word -/
def isw (mem : Nat → Nat → Int32) (i f t : Nat) : Prop := t - f = qsn.getD i 0 ∧ ∀ j, j < qsn.getD i 0 → mem 29 (f + j) = (qsw.getD i []).getD j 0
section TKB
variable {d : Nat} {P : qE → Prop} {X : qH} {mem : Nat → Nat → Int32} {sw : Bool} {o : Int64} {e : List Nat}
theorem cTxt_isWord {i f t : Nat} (hX : X.length = 13) (hi : i < 6) (hft : f ≤ t) (ht : t ≤ 200) (k1 : isw mem i f t → P (.inl (some (.int 1)), hpo X mem sw o e)) (k0 : ¬ isw mem i f t → P (.inl (some (.int 0)), hpo X mem sw o e)) : QW (d + 4) mTxt_isWord 0 (qen 5 [.ref 28, .int (qi f), .int (qi t), .ref (30001 + i)]) [] (hpo X mem sw o e) P := by
  show QW (d + 4) mTxt_isWord 0 [.val (.ref 28), .val (.int (qi f)), .val (.int (qi t)), .val (.ref (30001 + i)), .unset] [] (hpo X mem sw o e) P
  have hb := (sc_n i hi).2
  refine QW.iload_n (i := 2) (k := 2) (by decide +kernel) rfl rfl ?_
  refine QW.iload_n (i := 1) (k := 1) (by decide +kernel) rfl rfl ?_
  refine QW.isub (by decide +kernel) ?_
  rw [qi_sub hft]
  refine QW.aload_n (i := 3) (k := 3) (by decide +kernel) rfl rfl ?_
  refine QW.callVS (idx := 27) (as := []) (rest := [.int (qi (t - f))]) (M2 := mJString_length) (P1 := qcl (d + 3) mTxt_isWord 4 7 [.val (.ref 28), .val (.int (qi f)), .val (.int (qi t)), .val (.ref (30001 + i)), .unset] [.int (qi (t - f))] P) hi (by decide +kernel) eJS_length kJ_602 iJS_length vJS_length (by decide +kernel) rfl rfl rfl (Nat.le_of_ble_eq_true rfl) (cJS_length hi (qcl_i ?_)) (fun v h' q => q.1 v rfl) (fun a h' q => q.2 a rfl)
  refine QW.icmp_eq (tgt := 12) (off := 5) (by decide +kernel) (by decide) (fun z => ?_) (fun z => ?_)
  · have hl : t - f = qsn.getD i 0 := qi_inj (by omega) (by omega) z
    refine QW.iconst (n := 0) (v := 0) (by decide +kernel) (by decide) ?_
    refine QW.istore (i := 4) (by decide +kernel) rfl ?_
    have lp : ∀ g j : Nat, j + g = qsn.getD i 0 → (∀ q, q < j → mem 29 (f + q) = (qsw.getD i []).getD q 0) → QW (d + 4) mTxt_isWord 15 [.val (.ref 28), .val (.int (qi f)), .val (.int (qi t)), .val (.ref (30001 + i)), .val (.int (qi j))] [] (hpo X mem sw o e) P := by
      intro g
      induction g with
      | zero =>
        intro j hj hall
        refine QW.iload (i := 4) (by decide +kernel) rfl ?_
        refine QW.aload_n (i := 3) (k := 3) (by decide +kernel) rfl rfl ?_
        refine QW.callVS (idx := 27) (as := []) (rest := [.int (qi j)]) (M2 := mJString_length) (P1 := qcl (d + 3) mTxt_isWord 18 21 [.val (.ref 28), .val (.int (qi f)), .val (.int (qi t)), .val (.ref (30001 + i)), .val (.int (qi j))] [.int (qi j)] P) hi (by decide +kernel) eJS_length kJ_602 iJS_length vJS_length (by decide +kernel) rfl rfl rfl (Nat.le_of_ble_eq_true rfl) (cJS_length hi (qcl_i ?_)) (fun v h' q => q.1 v rfl) (fun a h' q => q.2 a rfl)
        refine QW.icmp_ge (tgt := 50) (off := 29) (by decide +kernel) (by decide) (fun _ => ?_) (fun w => absurd ((qi_le (by omega) (by omega)).mpr (by omega)) w)
        refine QW.iconst (n := 1) (v := 1) (by decide +kernel) (by decide) ?_
        exact QW.iret (by decide +kernel) rfl rfl (k1 ⟨hl, fun q hq => hall q (by omega)⟩)
      | succ g ih =>
        intro j hj hall
        refine QW.iload (i := 4) (by decide +kernel) rfl ?_
        refine QW.aload_n (i := 3) (k := 3) (by decide +kernel) rfl rfl ?_
        refine QW.callVS (idx := 27) (as := []) (rest := [.int (qi j)]) (M2 := mJString_length) (P1 := qcl (d + 3) mTxt_isWord 18 21 [.val (.ref 28), .val (.int (qi f)), .val (.int (qi t)), .val (.ref (30001 + i)), .val (.int (qi j))] [.int (qi j)] P) hi (by decide +kernel) eJS_length kJ_602 iJS_length vJS_length (by decide +kernel) rfl rfl rfl (Nat.le_of_ble_eq_true rfl) (cJS_length hi (qcl_i ?_)) (fun v h' q => q.1 v rfl) (fun a h' q => q.2 a rfl)
        refine QW.icmp_ge (tgt := 50) (off := 29) (by decide +kernel) (by decide) (fun w => absurd ((qi_le (by omega) (by omega)).mp w) (by omega)) (fun _ => ?_)
        refine QW.aload_n (i := 0) (k := 0) (by decide +kernel) rfl rfl ?_
        refine MW.getr (r' := 29) hX (by decide +kernel) fTxt_9 rfl rfl (by cases sw <;> rfl) ?_
        refine QW.iload_n (i := 1) (k := 1) (by decide +kernel) rfl rfl ?_
        refine QW.iload (i := 4) (by decide +kernel) rfl ?_
        refine QW.iadd (by decide +kernel) ?_
        rw [qi_add]
        have hx : inx (qi (f + j)) 200 := qi_inx (by omega) (by omega)
        refine MW.cald hX (by decide +kernel) rfl hx.1 (rep_get hx.2) ?_
        rw [qi_N (show f + j < 2147483648 by omega)]
        refine QW.aload_n (i := 3) (k := 3) (by decide +kernel) rfl rfl ?_
        refine QW.iload (i := 4) (by decide +kernel) rfl ?_
        refine QW.callVS (idx := 32) (as := [.int (qi j)]) (rest := [.int (mem 29 (f + j))]) (M2 := mJString_charAt) (P1 := qcl (d + 3) mTxt_isWord 36 39 [.val (.ref 28), .val (.int (qi f)), .val (.int (qi t)), .val (.ref (30001 + i)), .val (.int (qi j))] [.int (mem 29 (f + j))] P) hi (by decide +kernel) eJS_charAt kJ_612 iJS_charAt vJS_charAt (by show qnp _ = some 1; decide +kernel) rfl rfl rfl (Nat.le_of_ble_eq_true rfl) (cJS_charAt hi (by omega) (qcl_i ?_)) (fun v h' q => q.1 v rfl) (fun a h' q => q.2 a rfl)
        refine QW.icmp_eq (tgt := 44) (off := 5) (by decide +kernel) (by decide) (fun w => ?_) (fun w => ?_)
        · refine MW.iinc (n := 1) (c := 1) (q := 4) (by decide +kernel) (by decide) rfl rfl ?_
          refine QW.goto (tgt := 15) (off := -32) (by decide +kernel) (by decide) ?_
          have := ih (j + 1) (by omega) (fun q hq => by
            by_cases eq : q = j
            · rw [eq]; exact w
            · exact hall q (by omega))
          rw [← qi_1 j] at this
          exact this
        · refine QW.iconst (n := 0) (v := 0) (by decide +kernel) (by decide) ?_
          exact QW.iret (by decide +kernel) rfl rfl (k0 (fun q => w (q.2 j (by omega))))
    exact lp (qsn.getD i 0) 0 (by omega) (fun q hq => absurd hq (by omega))
  · refine QW.iconst (n := 0) (v := 0) (by decide +kernel) (by decide) ?_
    exact QW.iret (by decide +kernel) rfl rfl (k0 (fun q => z (by rw [q.1])))
theorem cTok_wordKind {f t : Nat} (hX : X.length = 13) (hft : f ≤ t) (ht : t ≤ 200) (k3 : t - f = 1 → P (.inl (some (.int 3)), hpo X mem sw o e)) (k6 : ¬ t - f = 1 → isw mem 1 f t → P (.inl (some (.int 6)), hpo X mem sw o e)) (k7 : ¬ t - f = 1 → ¬ isw mem 1 f t → isw mem 2 f t → P (.inl (some (.int 7)), hpo X mem sw o e)) (k8 : ¬ t - f = 1 → ¬ isw mem 1 f t → ¬ isw mem 2 f t → isw mem 3 f t → P (.inl (some (.int 8)), hpo X mem sw o e)) (k9 : ¬ t - f = 1 → ¬ isw mem 1 f t → ¬ isw mem 2 f t → ¬ isw mem 3 f t → isw mem 4 f t → P (.inl (some (.int 9)), hpo X mem sw o e))
    (k10 : ¬ t - f = 1 → ¬ isw mem 1 f t → ¬ isw mem 2 f t → ¬ isw mem 3 f t → ¬ isw mem 4 f t → isw mem 5 f t → P (.inl (some (.int 10)), hpo X mem sw o e)) (k2 : ¬ t - f = 1 → ¬ isw mem 1 f t → ¬ isw mem 2 f t → ¬ isw mem 3 f t → ¬ isw mem 4 f t → ¬ isw mem 5 f t → P (.inl (some (.int 2)), hpo X mem sw o e)) : QW (d + 5) mTok_wordKind 0 (qen 3 [.ref 28, .int (qi f), .int (qi t)]) [] (hpo X mem sw o e) P := by
  show QW (d + 5) mTok_wordKind 0 [.val (.ref 28), .val (.int (qi f)), .val (.int (qi t))] [] (hpo X mem sw o e) P
  refine QW.iload_n (i := 2) (k := 2) (by decide +kernel) rfl rfl ?_
  refine QW.iload_n (i := 1) (k := 1) (by decide +kernel) rfl rfl ?_
  refine QW.isub (by decide +kernel) ?_
  rw [qi_sub hft]
  refine QW.iconst (n := 1) (v := 1) (by decide +kernel) (by decide) ?_
  refine QW.icmp_ne (tgt := 9) (off := 5) (by decide +kernel) (by decide) (fun z => ?_) (fun z => ?_)
  rotate_left
  · have z : t - f = 1 := qi_inj (b := 1) (by omega) (by omega) z
    refine QW.iconst (n := 3) (v := 3) (by decide +kernel) (by decide) ?_
    exact QW.iret (by decide +kernel) rfl rfl (k3 z)
  have z0 : ¬ t - f = 1 := fun q => z (by rw [q]; rfl)
  refine QW.aload_n (i := 0) (k := 0) (by decide +kernel) rfl rfl ?_
  refine QW.iload_n (i := 1) (k := 1) (by decide +kernel) rfl rfl ?_
  refine QW.iload_n (i := 2) (k := 2) (by decide +kernel) rfl rfl ?_
  refine QW.ldcS (i := 1) (idx := 65) (by omega) (by decide +kernel) rfl rfl kJ_s65 ?_
  refine MW.callV (idx := 67) (b := 28) (as := [.int (qi f), .int (qi t), .ref (30001 + 1)]) (rest := []) (M2 := mTxt_isWord) (P1 := qcl (d + 4) mTok_wordKind 14 17 [.val (.ref 28), .val (.int (qi f)), .val (.int (qi t))] [] P) hX (by decide +kernel) eTxt_isWord lTok_67 iTxt_isWord vTxt_isWord (by show qnp _ = some 3; decide +kernel) rfl rfl rfl rfl rfl (Nat.le_of_ble_eq_true rfl) ?_ (fun v h' q => q.1 v rfl) (fun a h' q => q.2 a rfl)
  refine cTxt_isWord hX (by omega) hft ht (fun y => qcl_i ?_) (fun z1 => qcl_i ?_)
  · refine QW.if_eq (tgt := 23) (off := 6) (by decide +kernel) (by decide) (fun q => absurd q (by decide)) (fun _ => ?_)
    refine QW.bipush (n := 6) (v := 6) (by decide +kernel) (by decide) ?_
    exact QW.iret (by decide +kernel) rfl rfl (k6 z0 y)
  refine QW.if_eq (tgt := 23) (off := 6) (by decide +kernel) (by decide) (fun _ => ?_) (fun q => absurd rfl q)
  refine QW.aload_n (i := 0) (k := 0) (by decide +kernel) rfl rfl ?_
  refine QW.iload_n (i := 1) (k := 1) (by decide +kernel) rfl rfl ?_
  refine QW.iload_n (i := 2) (k := 2) (by decide +kernel) rfl rfl ?_
  refine QW.ldcS (i := 2) (idx := 71) (by omega) (by decide +kernel) rfl rfl kJ_s71 ?_
  refine MW.callV (idx := 67) (b := 28) (as := [.int (qi f), .int (qi t), .ref (30001 + 2)]) (rest := []) (M2 := mTxt_isWord) (P1 := qcl (d + 4) mTok_wordKind 28 31 [.val (.ref 28), .val (.int (qi f)), .val (.int (qi t))] [] P) hX (by decide +kernel) eTxt_isWord lTok_67 iTxt_isWord vTxt_isWord (by show qnp _ = some 3; decide +kernel) rfl rfl rfl rfl rfl (Nat.le_of_ble_eq_true rfl) ?_ (fun v h' q => q.1 v rfl) (fun a h' q => q.2 a rfl)
  refine cTxt_isWord hX (by omega) hft ht (fun y => qcl_i ?_) (fun z2 => qcl_i ?_)
  · refine QW.if_eq (tgt := 37) (off := 6) (by decide +kernel) (by decide) (fun q => absurd q (by decide)) (fun _ => ?_)
    refine QW.bipush (n := 7) (v := 7) (by decide +kernel) (by decide) ?_
    exact QW.iret (by decide +kernel) rfl rfl (k7 z0 z1 y)
  refine QW.if_eq (tgt := 37) (off := 6) (by decide +kernel) (by decide) (fun _ => ?_) (fun q => absurd rfl q)
  refine QW.aload_n (i := 0) (k := 0) (by decide +kernel) rfl rfl ?_
  refine QW.iload_n (i := 1) (k := 1) (by decide +kernel) rfl rfl ?_
  refine QW.iload_n (i := 2) (k := 2) (by decide +kernel) rfl rfl ?_
  refine QW.ldcS (i := 3) (idx := 73) (by omega) (by decide +kernel) rfl rfl kJ_s73 ?_
  refine MW.callV (idx := 67) (b := 28) (as := [.int (qi f), .int (qi t), .ref (30001 + 3)]) (rest := []) (M2 := mTxt_isWord) (P1 := qcl (d + 4) mTok_wordKind 42 45 [.val (.ref 28), .val (.int (qi f)), .val (.int (qi t))] [] P) hX (by decide +kernel) eTxt_isWord lTok_67 iTxt_isWord vTxt_isWord (by show qnp _ = some 3; decide +kernel) rfl rfl rfl rfl rfl (Nat.le_of_ble_eq_true rfl) ?_ (fun v h' q => q.1 v rfl) (fun a h' q => q.2 a rfl)
  refine cTxt_isWord hX (by omega) hft ht (fun y => qcl_i ?_) (fun z3 => qcl_i ?_)
  · refine QW.if_eq (tgt := 51) (off := 6) (by decide +kernel) (by decide) (fun q => absurd q (by decide)) (fun _ => ?_)
    refine QW.bipush (n := 8) (v := 8) (by decide +kernel) (by decide) ?_
    exact QW.iret (by decide +kernel) rfl rfl (k8 z0 z1 z2 y)
  refine QW.if_eq (tgt := 51) (off := 6) (by decide +kernel) (by decide) (fun _ => ?_) (fun q => absurd rfl q)
  refine QW.aload_n (i := 0) (k := 0) (by decide +kernel) rfl rfl ?_
  refine QW.iload_n (i := 1) (k := 1) (by decide +kernel) rfl rfl ?_
  refine QW.iload_n (i := 2) (k := 2) (by decide +kernel) rfl rfl ?_
  refine QW.ldcS (i := 4) (idx := 75) (by omega) (by decide +kernel) rfl rfl kJ_s75 ?_
  refine MW.callV (idx := 67) (b := 28) (as := [.int (qi f), .int (qi t), .ref (30001 + 4)]) (rest := []) (M2 := mTxt_isWord) (P1 := qcl (d + 4) mTok_wordKind 56 59 [.val (.ref 28), .val (.int (qi f)), .val (.int (qi t))] [] P) hX (by decide +kernel) eTxt_isWord lTok_67 iTxt_isWord vTxt_isWord (by show qnp _ = some 3; decide +kernel) rfl rfl rfl rfl rfl (Nat.le_of_ble_eq_true rfl) ?_ (fun v h' q => q.1 v rfl) (fun a h' q => q.2 a rfl)
  refine cTxt_isWord hX (by omega) hft ht (fun y => qcl_i ?_) (fun z4 => qcl_i ?_)
  · refine QW.if_eq (tgt := 65) (off := 6) (by decide +kernel) (by decide) (fun q => absurd q (by decide)) (fun _ => ?_)
    refine QW.bipush (n := 9) (v := 9) (by decide +kernel) (by decide) ?_
    exact QW.iret (by decide +kernel) rfl rfl (k9 z0 z1 z2 z3 y)
  refine QW.if_eq (tgt := 65) (off := 6) (by decide +kernel) (by decide) (fun _ => ?_) (fun q => absurd rfl q)
  refine QW.aload_n (i := 0) (k := 0) (by decide +kernel) rfl rfl ?_
  refine QW.iload_n (i := 1) (k := 1) (by decide +kernel) rfl rfl ?_
  refine QW.iload_n (i := 2) (k := 2) (by decide +kernel) rfl rfl ?_
  refine QW.ldcS (i := 5) (idx := 77) (by omega) (by decide +kernel) rfl rfl kJ_s77 ?_
  refine MW.callV (idx := 67) (b := 28) (as := [.int (qi f), .int (qi t), .ref (30001 + 5)]) (rest := []) (M2 := mTxt_isWord) (P1 := qcl (d + 4) mTok_wordKind 70 73 [.val (.ref 28), .val (.int (qi f)), .val (.int (qi t))] [] P) hX (by decide +kernel) eTxt_isWord lTok_67 iTxt_isWord vTxt_isWord (by show qnp _ = some 3; decide +kernel) rfl rfl rfl rfl rfl (Nat.le_of_ble_eq_true rfl) ?_ (fun v h' q => q.1 v rfl) (fun a h' q => q.2 a rfl)
  refine cTxt_isWord hX (by omega) hft ht (fun y => qcl_i ?_) (fun z5 => qcl_i ?_)
  · refine QW.if_eq (tgt := 81) (off := 8) (by decide +kernel) (by decide) (fun q => absurd q (by decide)) (fun _ => ?_)
    refine QW.bipush (n := 10) (v := 10) (by decide +kernel) (by decide) ?_
    refine QW.goto (tgt := 82) (off := 4) (by decide +kernel) (by decide) ?_
    exact QW.iret (by decide +kernel) rfl rfl (k10 z0 z1 z2 z3 z4 y)
  refine QW.if_eq (tgt := 81) (off := 8) (by decide +kernel) (by decide) (fun _ => ?_) (fun q => absurd rfl q)
  refine QW.iconst (n := 2) (v := 2) (by decide +kernel) (by decide) ?_
  exact QW.iret (by decide +kernel) rfl rfl (k2 z0 z1 z2 z3 z4 z5)
theorem bTok_addToken_0 {s : Int32} (hX : X.length = 13) (hs : inx s 200)
    (kA : ¬ mem 29 s.toNatClampNeg < 97 → ¬ 122 < mem 29 s.toNatClampNeg → QW d mTxt_endOfRun 0 (qen 5 [.ref 28, .int s, .int 97, .int 122]) [] (hpo X mem sw o e) (qcl d mTok_addToken 25 28 [.val (.ref 31), .val (.ref 28), .val (.int s), .val (.int (mem 29 s.toNatClampNeg)), .unset, .unset] [] P))
    (kD : mem 29 s.toNatClampNeg < 97 ∨ 122 < mem 29 s.toNatClampNeg → ¬ mem 29 s.toNatClampNeg < 48 → ¬ 57 < mem 29 s.toNatClampNeg → QW d mTxt_endOfRun 0 (qen 5 [.ref 28, .int s, .int 48, .int 57]) [] (hpo X mem sw o e) (qcl d mTok_addToken 64 67 [.val (.ref 31), .val (.ref 28), .val (.int s), .val (.int (mem 29 s.toNatClampNeg)), .unset, .unset] [] P))
    (kC : mem 29 s.toNatClampNeg < 97 ∨ 122 < mem 29 s.toNatClampNeg → mem 29 s.toNatClampNeg < 48 ∨ 57 < mem 29 s.toNatClampNeg → ¬ mem 29 s.toNatClampNeg < 65 → ¬ 90 < mem 29 s.toNatClampNeg → QW d mTok_put 0 (qen 4 [.ref 31, .int 4, .int s, .int (mem 29 s.toNatClampNeg - 65)]) [] (hpo X mem sw o e) (qcl d mTok_addToken 137 140 [.val (.ref 31), .val (.ref 28), .val (.int s), .val (.int (mem 29 s.toNatClampNeg)), .unset, .unset] [] P))
    (kS : mem 29 s.toNatClampNeg < 97 ∨ 122 < mem 29 s.toNatClampNeg → mem 29 s.toNatClampNeg < 48 ∨ 57 < mem 29 s.toNatClampNeg → mem 29 s.toNatClampNeg < 65 ∨ 90 < mem 29 s.toNatClampNeg → QW d mJString_indexOf 0 (qen 2 [.ref 30001, .int (mem 29 s.toNatClampNeg)]) [] (hpo X mem sw o e) (qcl d mTok_addToken 147 150 [.val (.ref 31), .val (.ref 28), .val (.int s), .val (.int (mem 29 s.toNatClampNeg)), .unset, .unset] [.ref 31] P)) :
    QW (d + 1) mTok_addToken 0 (qen 6 [.ref 31, .ref 28, .int s]) [] (hpo X mem sw o e) P := by
  show QW (d + 1) mTok_addToken 0 [.val (.ref 31), .val (.ref 28), .val (.int s), .unset, .unset, .unset] [] (hpo X mem sw o e) P
  refine QW.aload_n (i := 1) (k := 1) (by decide +kernel) rfl rfl ?_
  refine MW.getr (r' := 29) hX (by decide +kernel) fTok_33 rfl rfl (by cases sw <;> rfl) ?_
  refine QW.iload_n (i := 2) (k := 2) (by decide +kernel) rfl rfl ?_
  refine MW.cald hX (by decide +kernel) rfl hs.1 (rep_get hs.2) ?_
  refine QW.istore_n (i := 3) (k := 3) (by decide +kernel) rfl rfl ?_
  generalize hc : mem 29 s.toNatClampNeg = c at kA kD kC kS ⊢
  show QW (d + 1) mTok_addToken 7 [.val (.ref 31), .val (.ref 28), .val (.int s), .val (.int c), .unset, .unset] [] (hpo X mem sw o e) P
  have g46 : c < 97 ∨ 122 < c → QW (d + 1) mTok_addToken 46 [.val (.ref 31), .val (.ref 28), .val (.int s), .val (.int c), .unset, .unset] [] (hpo X mem sw o e) P := by
    intro w1
    have g118 : c < 48 ∨ 57 < c → QW (d + 1) mTok_addToken 118 [.val (.ref 31), .val (.ref 28), .val (.int s), .val (.int c), .unset, .unset] [] (hpo X mem sw o e) P := by
      intro w2
      have g143 : c < 65 ∨ 90 < c → QW (d + 1) mTok_addToken 143 [.val (.ref 31), .val (.ref 28), .val (.int s), .val (.int c), .unset, .unset] [] (hpo X mem sw o e) P := by
        intro w3
        refine QW.aload_n (i := 0) (k := 0) (by decide +kernel) rfl rfl ?_
        refine QW.ldcS (i := 0) (idx := 57) (by omega) (by decide +kernel) rfl rfl kJ_s57 ?_
        refine QW.iload_n (i := 3) (k := 3) (by decide +kernel) rfl rfl ?_
        exact QW.callVS (i := 0) (idx := 59) (as := [.int c]) (rest := [.ref 31]) (M2 := mJString_indexOf) (P1 := qcl d mTok_addToken 147 150 [.val (.ref 31), .val (.ref 28), .val (.int s), .val (.int c), .unset, .unset] [.ref 31] P) (by omega) (by decide +kernel) eJS_indexOf kJ_663 iJS_indexOf vJS_indexOf (by show qnp _ = some 1; decide +kernel) rfl rfl rfl (Nat.le_of_ble_eq_true rfl) (kS w1 w2 w3) (fun v h' q => q.1 v rfl) (fun a h' q => q.2 a rfl)
      refine QW.iload_n (i := 3) (k := 3) (by decide +kernel) rfl rfl ?_
      refine QW.bipush (n := 65) (v := 65) (by decide +kernel) (by decide) ?_
      refine QW.icmp_lt (tgt := 143) (off := 22) (by decide +kernel) (by decide) (fun z => g143 (Or.inl z)) (fun z5 => ?_)
      refine QW.iload_n (i := 3) (k := 3) (by decide +kernel) rfl rfl ?_
      refine QW.bipush (n := 90) (v := 90) (by decide +kernel) (by decide) ?_
      refine QW.icmp_gt (tgt := 143) (off := 16) (by decide +kernel) (by decide) (fun z => g143 (Or.inr z)) (fun z6 => ?_)
      refine QW.aload_n (i := 0) (k := 0) (by decide +kernel) rfl rfl ?_
      refine QW.iconst (n := 4) (v := 4) (by decide +kernel) (by decide) ?_
      refine QW.iload_n (i := 2) (k := 2) (by decide +kernel) rfl rfl ?_
      refine QW.iload_n (i := 3) (k := 3) (by decide +kernel) rfl rfl ?_
      refine QW.bipush (n := 65) (v := 65) (by decide +kernel) (by decide) ?_
      refine QW.isub (by decide +kernel) ?_
      exact MW.callV (idx := 41) (b := 31) (as := [.int 4, .int s, .int (c - 65)]) (rest := []) (M2 := mTok_put) (P1 := qcl d mTok_addToken 137 140 [.val (.ref 31), .val (.ref 28), .val (.int s), .val (.int c), .unset, .unset] [] P) hX (by decide +kernel) eTok_put lTok_41 iTok_put vTok_put (by show qnp _ = some 3; decide +kernel) rfl rfl rfl rfl rfl (Nat.le_of_ble_eq_true rfl) (kC w1 w2 z5 z6) (fun v h' q => q.1 v rfl) (fun a h' q => q.2 a rfl)
    refine QW.iload_n (i := 3) (k := 3) (by decide +kernel) rfl rfl ?_
    refine QW.bipush (n := 48) (v := 48) (by decide +kernel) (by decide) ?_
    refine QW.icmp_lt (tgt := 118) (off := 69) (by decide +kernel) (by decide) (fun z => g118 (Or.inl z)) (fun z3 => ?_)
    refine QW.iload_n (i := 3) (k := 3) (by decide +kernel) rfl rfl ?_
    refine QW.bipush (n := 57) (v := 57) (by decide +kernel) (by decide) ?_
    refine QW.icmp_gt (tgt := 118) (off := 63) (by decide +kernel) (by decide) (fun z => g118 (Or.inr z)) (fun z4 => ?_)
    refine QW.aload_n (i := 1) (k := 1) (by decide +kernel) rfl rfl ?_
    refine QW.iload_n (i := 2) (k := 2) (by decide +kernel) rfl rfl ?_
    refine QW.bipush (n := 48) (v := 48) (by decide +kernel) (by decide) ?_
    refine QW.bipush (n := 57) (v := 57) (by decide +kernel) (by decide) ?_
    exact MW.callV (idx := 45) (b := 28) (as := [.int s, .int 48, .int 57]) (rest := []) (M2 := mTxt_endOfRun) (P1 := qcl d mTok_addToken 64 67 [.val (.ref 31), .val (.ref 28), .val (.int s), .val (.int c), .unset, .unset] [] P) hX (by decide +kernel) eTxt_endOfRun lTok_45 iTxt_endOfRun vTxt_endOfRun (by show qnp _ = some 3; decide +kernel) rfl rfl rfl rfl rfl (Nat.le_of_ble_eq_true rfl) (kD w1 z3 z4) (fun v h' q => q.1 v rfl) (fun a h' q => q.2 a rfl)
  refine QW.iload_n (i := 3) (k := 3) (by decide +kernel) rfl rfl ?_
  refine QW.bipush (n := 97) (v := 97) (by decide +kernel) (by decide) ?_
  refine QW.icmp_lt (tgt := 46) (off := 36) (by decide +kernel) (by decide) (fun z => g46 (Or.inl z)) (fun z1 => ?_)
  refine QW.iload_n (i := 3) (k := 3) (by decide +kernel) rfl rfl ?_
  refine QW.bipush (n := 122) (v := 122) (by decide +kernel) (by decide) ?_
  refine QW.icmp_gt (tgt := 46) (off := 30) (by decide +kernel) (by decide) (fun z => g46 (Or.inr z)) (fun z2 => ?_)
  refine QW.aload_n (i := 1) (k := 1) (by decide +kernel) rfl rfl ?_
  refine QW.iload_n (i := 2) (k := 2) (by decide +kernel) rfl rfl ?_
  refine QW.bipush (n := 97) (v := 97) (by decide +kernel) (by decide) ?_
  refine QW.bipush (n := 122) (v := 122) (by decide +kernel) (by decide) ?_
  exact MW.callV (idx := 45) (b := 28) (as := [.int s, .int 97, .int 122]) (rest := []) (M2 := mTxt_endOfRun) (P1 := qcl d mTok_addToken 25 28 [.val (.ref 31), .val (.ref 28), .val (.int s), .val (.int c), .unset, .unset] [] P) hX (by decide +kernel) eTxt_endOfRun lTok_45 iTxt_endOfRun vTxt_endOfRun (by show qnp _ = some 3; decide +kernel) rfl rfl rfl rfl rfl (Nat.le_of_ble_eq_true rfl) (kA z1 z2) (fun v h' q => q.1 v rfl) (fun a h' q => q.2 a rfl)
theorem bTok_addToken_28 {s c t : Int32} (hX : X.length = 13) (k : QW d mTok_wordKind 0 (qen 3 [.ref 28, .int s, .int t]) [] (hpo X mem sw o e) (qcl d mTok_addToken 35 38 [.val (.ref 31), .val (.ref 28), .val (.int s), .val (.int c), .val (.int t), .unset] [.ref 31] P)) : QW (d + 1) mTok_addToken 28 [.val (.ref 31), .val (.ref 28), .val (.int s), .val (.int c), .unset, .unset] [.int t] (hpo X mem sw o e) P := by
  refine QW.istore (i := 4) (by decide +kernel) rfl ?_
  refine QW.aload_n (i := 0) (k := 0) (by decide +kernel) rfl rfl ?_
  refine QW.aload_n (i := 1) (k := 1) (by decide +kernel) rfl rfl ?_
  refine QW.iload_n (i := 2) (k := 2) (by decide +kernel) rfl rfl ?_
  refine QW.iload (i := 4) (by decide +kernel) rfl ?_
  exact QW.callS (idx := 49) (as := [.ref 28, .int s, .int t]) (rest := [.ref 31]) (M2 := mTok_wordKind) (P1 := qcl d mTok_addToken 35 38 [.val (.ref 31), .val (.ref 28), .val (.int s), .val (.int c), .val (.int t), .unset] [.ref 31] P) (by decide +kernel) eTok_wordKind lTok_49 sTok_wordKind (by show qnp _ = some 3; decide +kernel) rfl rfl (Nat.le_of_ble_eq_true rfl) k (fun v h' q => q.1 v rfl) (fun a h' q => q.2 a rfl)
theorem bTok_addToken_38 {s c t x : Int32} (hX : X.length = 13) (k : QW d mTok_put 0 (qen 4 [.ref 31, .int x, .int s, .int c]) [] (hpo X mem sw o e) (qcl d mTok_addToken 40 43 [.val (.ref 31), .val (.ref 28), .val (.int s), .val (.int c), .val (.int t), .unset] [] P)) : QW (d + 1) mTok_addToken 38 [.val (.ref 31), .val (.ref 28), .val (.int s), .val (.int c), .val (.int t), .unset] [.int x, .ref 31] (hpo X mem sw o e) P := by
  refine QW.iload_n (i := 2) (k := 2) (by decide +kernel) rfl rfl ?_
  refine QW.iload_n (i := 3) (k := 3) (by decide +kernel) rfl rfl ?_
  exact MW.callV (idx := 41) (b := 31) (as := [.int x, .int s, .int c]) (rest := []) (M2 := mTok_put) (P1 := qcl d mTok_addToken 40 43 [.val (.ref 31), .val (.ref 28), .val (.int s), .val (.int c), .val (.int t), .unset] [] P) hX (by decide +kernel) eTok_put lTok_41 iTok_put vTok_put (by show qnp _ = some 3; decide +kernel) rfl rfl rfl rfl rfl (Nat.le_of_ble_eq_true rfl) k (fun v h' q => q.1 v rfl) (fun a h' q => q.2 a rfl)
theorem bTok_addToken_43 {s c t : Int32} (hX : X.length = 13) (k : P (.inl (some (.int t)), (hpo X mem sw o e))) : QW d mTok_addToken 43 [.val (.ref 31), .val (.ref 28), .val (.int s), .val (.int c), .val (.int t), .unset] [] (hpo X mem sw o e) P := by
  refine QW.iload (i := 4) (by decide +kernel) rfl ?_
  exact QW.iret (by decide +kernel) rfl rfl k
theorem bTok_addToken_67 {s c t : Int32} (hX : X.length = 13) (k5 : ¬ 3 < t - s → QW d mTxt_number 0 (qen 5 [.ref 28, .int s, .int t]) [] (hpo X mem sw o e) (qcl d mTok_addToken 105 108 [.val (.ref 31), .val (.ref 28), .val (.int s), .val (.int c), .val (.int t), .val (.int 1)] [.int s, .int 5, .ref 31] P)) (k1 : 3 < t - s → QW d mTok_put 0 (qen 4 [.ref 31, .int 1, .int s, .int 0]) [] (hpo X mem sw o e) (qcl d mTok_addToken 112 115 [.val (.ref 31), .val (.ref 28), .val (.int s), .val (.int c), .val (.int t), .val (.int 0)] [] P)) : QW (d + 1) mTok_addToken 67 [.val (.ref 31), .val (.ref 28), .val (.int s), .val (.int c), .unset, .unset] [.int t] (hpo X mem sw o e) P := by
  refine QW.istore (i := 4) (by decide +kernel) rfl ?_
  refine QW.iload (i := 4) (by decide +kernel) rfl ?_
  refine QW.iload_n (i := 2) (k := 2) (by decide +kernel) rfl rfl ?_
  refine QW.isub (by decide +kernel) ?_
  refine QW.iconst (n := 3) (v := 3) (by decide +kernel) (by decide) ?_
  refine QW.icmp_gt (tgt := 81) (off := 7) (by decide +kernel) (by decide) (fun z => ?_) (fun z => ?_)
  · refine QW.iconst (n := 0) (v := 0) (by decide +kernel) (by decide) ?_
    refine QW.istore (i := 5) (by decide +kernel) rfl ?_
    refine QW.aload_n (i := 0) (k := 0) (by decide +kernel) rfl rfl ?_
    refine QW.iload (i := 5) (by decide +kernel) rfl ?_
    refine QW.if_eq (tgt := 94) (off := 7) (by decide +kernel) (by decide) (fun _ => ?_) (fun q => absurd rfl q)
    refine QW.iconst (n := 1) (v := 1) (by decide +kernel) (by decide) ?_
    refine QW.iload_n (i := 2) (k := 2) (by decide +kernel) rfl rfl ?_
    refine QW.iload (i := 5) (by decide +kernel) rfl ?_
    refine QW.if_eq (tgt := 111) (off := 13) (by decide +kernel) (by decide) (fun _ => ?_) (fun q => absurd rfl q)
    refine QW.iconst (n := 0) (v := 0) (by decide +kernel) (by decide) ?_
    exact MW.callV (idx := 41) (b := 31) (as := [.int 1, .int s, .int 0]) (rest := []) (M2 := mTok_put) (P1 := qcl d mTok_addToken 112 115 [.val (.ref 31), .val (.ref 28), .val (.int s), .val (.int c), .val (.int t), .val (.int 0)] [] P) hX (by decide +kernel) eTok_put lTok_41 iTok_put vTok_put (by show qnp _ = some 3; decide +kernel) rfl rfl rfl rfl rfl (Nat.le_of_ble_eq_true rfl) (k1 z) (fun v h' q => q.1 v rfl) (fun a h' q => q.2 a rfl)
  · refine QW.iconst (n := 1) (v := 1) (by decide +kernel) (by decide) ?_
    refine QW.goto (tgt := 82) (off := 4) (by decide +kernel) (by decide) ?_
    refine QW.istore (i := 5) (by decide +kernel) rfl ?_
    refine QW.aload_n (i := 0) (k := 0) (by decide +kernel) rfl rfl ?_
    refine QW.iload (i := 5) (by decide +kernel) rfl ?_
    refine QW.if_eq (tgt := 94) (off := 7) (by decide +kernel) (by decide) (fun q => absurd q (by decide)) (fun _ => ?_)
    refine QW.iconst (n := 5) (v := 5) (by decide +kernel) (by decide) ?_
    refine QW.goto (tgt := 95) (off := 4) (by decide +kernel) (by decide) ?_
    refine QW.iload_n (i := 2) (k := 2) (by decide +kernel) rfl rfl ?_
    refine QW.iload (i := 5) (by decide +kernel) rfl ?_
    refine QW.if_eq (tgt := 111) (off := 13) (by decide +kernel) (by decide) (fun q => absurd q (by decide)) (fun _ => ?_)
    refine QW.aload_n (i := 1) (k := 1) (by decide +kernel) rfl rfl ?_
    refine QW.iload_n (i := 2) (k := 2) (by decide +kernel) rfl rfl ?_
    refine QW.iload (i := 4) (by decide +kernel) rfl ?_
    exact MW.callV (idx := 53) (b := 28) (as := [.int s, .int t]) (rest := [.int s, .int 5, .ref 31]) (M2 := mTxt_number) (P1 := qcl d mTok_addToken 105 108 [.val (.ref 31), .val (.ref 28), .val (.int s), .val (.int c), .val (.int t), .val (.int 1)] [.int s, .int 5, .ref 31] P) hX (by decide +kernel) eTxt_number lTok_53 iTxt_number vTxt_number (by show qnp _ = some 2; decide +kernel) rfl rfl rfl rfl rfl (Nat.le_of_ble_eq_true rfl) (k5 z) (fun v h' q => q.1 v rfl) (fun a h' q => q.2 a rfl)
theorem bTok_addToken_108 {s c t x : Int32} (hX : X.length = 13) (k : QW d mTok_put 0 (qen 4 [.ref 31, .int 5, .int s, .int x]) [] (hpo X mem sw o e) (qcl d mTok_addToken 112 115 [.val (.ref 31), .val (.ref 28), .val (.int s), .val (.int c), .val (.int t), .val (.int 1)] [] P)) : QW (d + 1) mTok_addToken 108 [.val (.ref 31), .val (.ref 28), .val (.int s), .val (.int c), .val (.int t), .val (.int 1)] [.int x, .int s, .int 5, .ref 31] (hpo X mem sw o e) P := by
  refine QW.goto (tgt := 112) (off := 4) (by decide +kernel) (by decide) ?_
  exact MW.callV (idx := 41) (b := 31) (as := [.int 5, .int s, .int x]) (rest := []) (M2 := mTok_put) (P1 := qcl d mTok_addToken 112 115 [.val (.ref 31), .val (.ref 28), .val (.int s), .val (.int c), .val (.int t), .val (.int 1)] [] P) hX (by decide +kernel) eTok_put lTok_41 iTok_put vTok_put (by show qnp _ = some 3; decide +kernel) rfl rfl rfl rfl rfl (Nat.le_of_ble_eq_true rfl) k (fun v h' q => q.1 v rfl) (fun a h' q => q.2 a rfl)
theorem bTok_addToken_115 {s c t x : Int32} (hX : X.length = 13) (k : P (.inl (some (.int t)), (hpo X mem sw o e))) : QW d mTok_addToken 115 [.val (.ref 31), .val (.ref 28), .val (.int s), .val (.int c), .val (.int t), .val (.int x)] [] (hpo X mem sw o e) P := by
  refine QW.iload (i := 4) (by decide +kernel) rfl ?_
  exact QW.iret (by decide +kernel) rfl rfl k
theorem bTok_addToken_163 {s c : Int32} (hX : X.length = 13) (k : P (.inl (some (.int (s + 1))), (hpo X mem sw o e))) : QW d mTok_addToken 163 [.val (.ref 31), .val (.ref 28), .val (.int s), .val (.int c), .unset, .unset] [] (hpo X mem sw o e) P := by
  refine QW.iload_n (i := 2) (k := 2) (by decide +kernel) rfl rfl ?_
  refine QW.iconst (n := 1) (v := 1) (by decide +kernel) (by decide) ?_
  refine QW.iadd (by decide +kernel) ?_
  exact QW.iret (by decide +kernel) rfl rfl k
theorem bTok_addToken_140 {s c : Int32} (hX : X.length = 13) (k : P (.inl (some (.int (s + 1))), (hpo X mem sw o e))) : QW d mTok_addToken 140 [.val (.ref 31), .val (.ref 28), .val (.int s), .val (.int c), .unset, .unset] [] (hpo X mem sw o e) P := by
  refine QW.goto (tgt := 163) (off := 23) (by decide +kernel) (by decide) ?_
  exact bTok_addToken_163 hX k
theorem bTok_addToken_150 {s c r : Int32} (hX : X.length = 13) (k1 : ¬ r < 0 → QW d mTok_put 0 (qen 4 [.ref 31, .int c, .int s, .int 0]) [] (hpo X mem sw o e) (qcl d mTok_addToken 160 163 [.val (.ref 31), .val (.ref 28), .val (.int s), .val (.int c), .unset, .unset] [] P)) (k0 : r < 0 → QW d mTok_put 0 (qen 4 [.ref 31, .int 1, .int s, .int 0]) [] (hpo X mem sw o e) (qcl d mTok_addToken 160 163 [.val (.ref 31), .val (.ref 28), .val (.int s), .val (.int c), .unset, .unset] [] P)) : QW (d + 1) mTok_addToken 150 [.val (.ref 31), .val (.ref 28), .val (.int s), .val (.int c), .unset, .unset] [.int r, .ref 31] (hpo X mem sw o e) P := by
  refine QW.if_lt (tgt := 157) (off := 7) (by decide +kernel) (by decide) (fun z => ?_) (fun z => ?_)
  · refine QW.iconst (n := 1) (v := 1) (by decide +kernel) (by decide) ?_
    refine QW.iload_n (i := 2) (k := 2) (by decide +kernel) rfl rfl ?_
    refine QW.iconst (n := 0) (v := 0) (by decide +kernel) (by decide) ?_
    exact MW.callV (idx := 41) (b := 31) (as := [.int 1, .int s, .int 0]) (rest := []) (M2 := mTok_put) (P1 := qcl d mTok_addToken 160 163 [.val (.ref 31), .val (.ref 28), .val (.int s), .val (.int c), .unset, .unset] [] P) hX (by decide +kernel) eTok_put lTok_41 iTok_put vTok_put (by show qnp _ = some 3; decide +kernel) rfl rfl rfl rfl rfl (Nat.le_of_ble_eq_true rfl) (k0 z) (fun v h' q => q.1 v rfl) (fun a h' q => q.2 a rfl)
  · refine QW.iload_n (i := 3) (k := 3) (by decide +kernel) rfl rfl ?_
    refine QW.goto (tgt := 158) (off := 4) (by decide +kernel) (by decide) ?_
    refine QW.iload_n (i := 2) (k := 2) (by decide +kernel) rfl rfl ?_
    refine QW.iconst (n := 0) (v := 0) (by decide +kernel) (by decide) ?_
    exact MW.callV (idx := 41) (b := 31) (as := [.int c, .int s, .int 0]) (rest := []) (M2 := mTok_put) (P1 := qcl d mTok_addToken 160 163 [.val (.ref 31), .val (.ref 28), .val (.int s), .val (.int c), .unset, .unset] [] P) hX (by decide +kernel) eTok_put lTok_41 iTok_put vTok_put (by show qnp _ = some 3; decide +kernel) rfl rfl rfl rfl rfl (Nat.le_of_ble_eq_true rfl) (k1 z) (fun v h' q => q.1 v rfl) (fun a h' q => q.2 a rfl)
end TKB

section JDK
variable {d i : Nat} {P : qE → Prop} {h : qH}
theorem sc_ch : ∀ i, i < 6 → ∀ k, k < qsn.getD i 0 → ((((qsw.getD i []).getD k 0) &&& 255).toUInt32 % 65536).toInt32 = (qsw.getD i []).getD k 0 ∧ narrow .char (.int ((qsw.getD i []).getD k 0)) = .int ((qsw.getD i []).getD k 0) := by decide +kernel
theorem sc_n : ∀ i, i < 6 → (Int32.ofNat (qsn.getD i 0)) >>> ((0 : Int32) &&& 31) = Int32.ofNat (qsn.getD i 0) ∧ qsn.getD i 0 < 100 := by decide +kernel
theorem cJS_coder (hi : i < 6) (k : P (.inl (some (.int 0)), h)) : QW d mJString_coder 0 (qen 1 [.ref (30001 + i)]) [] h P := by
  show QW d mJString_coder 0 [.val (.ref (30001 + i))] [] h P
  refine QW.gcs (by decide +kernel) rfl ?_
  refine QW.if_eq (tgt := 13) (off := 10) (by decide +kernel) (by decide) (fun z => absurd z (by decide)) (fun _ => ?_)
  refine QW.aload_n (i := 0) (k := 0) (by decide +kernel) rfl rfl ?_
  refine QW.scod hi (by decide +kernel) rfl ?_
  refine QW.goto (tgt := 14) (off := 4) (by decide +kernel) (by decide) ?_
  exact QW.iret (by decide +kernel) rfl rfl k
theorem cJS_isLatin1 (hi : i < 6) (k : P (.inl (some (.int 1)), h)) : QW d mJString_isLatin1 0 (qen 1 [.ref (30001 + i)]) [] h P := by
  show QW d mJString_isLatin1 0 [.val (.ref (30001 + i))] [] h P
  refine QW.gcs (by decide +kernel) rfl ?_
  refine QW.if_eq (tgt := 17) (off := 14) (by decide +kernel) (by decide) (fun z => absurd z (by decide)) (fun _ => ?_)
  refine QW.aload_n (i := 0) (k := 0) (by decide +kernel) rfl rfl ?_
  refine QW.scod hi (by decide +kernel) rfl ?_
  refine QW.if_ne (tgt := 17) (off := 7) (by decide +kernel) (by decide) (fun z => absurd rfl z) (fun _ => ?_)
  refine QW.iconst (n := 1) (v := 1) (by decide +kernel) (by decide) ?_
  refine QW.goto (tgt := 18) (off := 4) (by decide +kernel) (by decide) ?_
  exact QW.iret (by decide +kernel) rfl rfl k
theorem cJS_length (hi : i < 6) (k : P (.inl (some (.int (Int32.ofNat (qsn.getD i 0)))), h)) : QW (d + 1) mJString_length 0 (qen 1 [.ref (30001 + i)]) [] h P := by
  show QW (d + 1) mJString_length 0 [.val (.ref (30001 + i))] [] h P
  refine QW.aload_n (i := 0) (k := 0) (by decide +kernel) rfl rfl ?_
  refine QW.sval hi (by decide +kernel) rfl ?_
  refine QW.slen hi (by decide +kernel) ?_
  refine QW.aload_n (i := 0) (k := 0) (by decide +kernel) rfl rfl ?_
  refine QW.callVS (idx := 335) (as := []) (M2 := mJString_coder) (P1 := qcl d mJString_length 6 9 [.val (.ref (30001 + i))] [.int (Int32.ofNat (qsn.getD i 0))] P) hi (by decide +kernel) eJS_coder kJ_606 iJS_coder vJS_coder (by decide +kernel) rfl rfl rfl (Nat.le_of_ble_eq_true rfl) (cJS_coder hi (qcl_i ?_)) (fun v h' q => q.1 v rfl) (fun a h' q => q.2 a rfl)
  refine QW.ishr (by decide +kernel) ?_
  rw [(sc_n i hi).1]
  exact QW.iret (by decide +kernel) rfl rfl k
theorem cJP_checkIndex {x n : Int32} {v : Value} (h0 : ¬ x < 0) (h1 : x < n) (hv : v.category = 1) (k : P (.inl (some (.int x)), h)) : QW d mjdk_internal_util_Preconditions_checkIndex 0 [.val (.int x), .val (.int n), .val v] [] h P := by
  refine QW.iload_n (i := 0) (k := 0) (by decide +kernel) rfl rfl ?_
  refine QW.if_lt (tgt := 9) (off := 8) (by decide +kernel) (by decide) (fun z => absurd z h0) (fun _ => ?_)
  refine QW.iload_n (i := 0) (k := 0) (by decide +kernel) rfl rfl ?_
  refine QW.iload_n (i := 1) (k := 1) (by decide +kernel) rfl rfl ?_
  refine QW.icmp_lt (tgt := 16) (off := 10) (by decide +kernel) (by decide) (fun _ => ?_) (fun z => absurd h1 z)
  refine QW.iload_n (i := 0) (k := 0) (by decide +kernel) rfl rfl ?_
  exact QW.iret (by decide +kernel) rfl rfl k
theorem cJS_checkIndex {x n : Int32} (h0 : ¬ x < 0) (h1 : x < n) (k : P (.inl none, h)) : QW (d + 1) mJString_checkIndex 0 (qen 2 [.int x, .int n]) [] h P := by
  show QW (d + 1) mJString_checkIndex 0 [.val (.int x), .val (.int n)] [] h P
  refine QW.iload_n (i := 0) (k := 0) (by decide +kernel) rfl rfl ?_
  refine QW.iload_n (i := 1) (k := 1) (by decide +kernel) rfl rfl ?_
  have fin : ∀ v : Value, v.category = 1 → qen 3 [.int x, .int n, v] = [.val (.int x), .val (.int n), .val v] → QW (d + 1) mJString_checkIndex 5 [.val (.int x), .val (.int n)] [v, .int n, .int x] h P := by
    intro v hv hq
    refine QW.callS (idx := 1059) (as := [.int x, .int n, v]) (rest := []) (M2 := mjdk_internal_util_Preconditions_checkIndex) (P1 := qcl d mJString_checkIndex 5 8 [.val (.int x), .val (.int n)] [] P) (by decide +kernel) eJP_checkIndex kJ_628 sJP_checkIndex (by show qnp _ = some 3; decide +kernel) rfl rfl (Nat.le_of_ble_eq_true rfl) ?_ (fun v h' q => q.1 v rfl) (fun a h' q => q.2 a rfl)
    show QW d mjdk_internal_util_Preconditions_checkIndex 0 (qen 3 [.int x, .int n, v]) [] h _
    rw [hq]
    refine cJP_checkIndex h0 h1 hv (qcl_i ?_)
    refine QW.pop (by decide +kernel) rfl ?_
    exact QW.vret (by decide +kernel) rfl k
  exact QW.gff (by decide +kernel) rfl (fin .null rfl rfl) (fin (.ref 30000) rfl rfl)
theorem cJL_charAt {k : Nat} (hi : i < 6) (hk : k < qsn.getD i 0) (kk : P (.inl (some (.int ((qsw.getD i []).getD k 0))), h)) : QW (d + 2) mJStringLatin1_charAt 0 (qen 2 [.ref (30007 + i), .int (qi k)]) [] h P := by
  show QW (d + 2) mJStringLatin1_charAt 0 [.val (.ref (30007 + i)), .val (.int (qi k))] [] h P
  have hb := (sc_n i hi).2
  refine QW.iload_n (i := 1) (k := 1) (by decide +kernel) rfl rfl ?_
  refine QW.aload_n (i := 0) (k := 0) (by decide +kernel) rfl rfl ?_
  refine QW.slen hi (by decide +kernel) ?_
  refine QW.callS (idx := 9) (as := [.int (qi k), .int (Int32.ofNat (qsn.getD i 0))]) (rest := []) (M2 := mJString_checkIndex) (P1 := qcl (d + 1) mJStringLatin1_charAt 3 6 [.val (.ref (30007 + i)), .val (.int (qi k))] [] P) (by decide +kernel) eJS_checkIndex kJ_623 sJS_checkIndex (by show qnp _ = some 2; decide +kernel) rfl rfl (Nat.le_of_ble_eq_true rfl) (cJS_checkIndex (qi_p (by omega)) ((qi_lt (by omega) (by omega)).mpr hk) (qcl_v ?_)) (fun v h' q => q.1 v rfl) (fun a h' q => q.2 a rfl)
  refine QW.aload_n (i := 0) (k := 0) (by decide +kernel) rfl rfl ?_
  refine QW.iload_n (i := 1) (k := 1) (by decide +kernel) rfl rfl ?_
  have hN : (qi k).toNatClampNeg = k := qi_N (by omega)
  refine QW.sbyt hi (by decide +kernel) (qi_p (by omega)) (by rw [hN]; exact hk) ?_
  rw [hN]
  refine QW.sipush (n := 255) (v := 255) (by decide +kernel) (by decide) ?_
  refine QW.iand (by decide +kernel) ?_
  refine QW.i2c (by decide +kernel) ?_
  rw [(sc_ch i hi k hk).1]
  exact QW.iret (by decide +kernel) rfl (sc_ch i hi k hk).2 kk
theorem cJS_charAt {k : Nat} (hi : i < 6) (hk : k < qsn.getD i 0) (kk : P (.inl (some (.int ((qsw.getD i []).getD k 0))), h)) : QW (d + 3) mJString_charAt 0 (qen 2 [.ref (30001 + i), .int (qi k)]) [] h P := by
  show QW (d + 3) mJString_charAt 0 [.val (.ref (30001 + i)), .val (.int (qi k))] [] h P
  refine QW.aload_n (i := 0) (k := 0) (by decide +kernel) rfl rfl ?_
  refine QW.callVS (idx := 492) (as := []) (rest := []) (M2 := mJString_isLatin1) (P1 := qcl (d + 2) mJString_charAt 1 4 [.val (.ref (30001 + i)), .val (.int (qi k))] [] P) hi (by decide +kernel) eJS_isLatin1 kJ_616 iJS_isLatin1 vJS_isLatin1 (by decide +kernel) rfl rfl rfl (Nat.le_of_ble_eq_true rfl) (cJS_isLatin1 hi (qcl_i ?_)) (fun v h' q => q.1 v rfl) (fun a h' q => q.2 a rfl)
  refine QW.if_eq (tgt := 16) (off := 12) (by decide +kernel) (by decide) (fun z => absurd z (by decide)) (fun _ => ?_)
  refine QW.aload_n (i := 0) (k := 0) (by decide +kernel) rfl rfl ?_
  refine QW.sval hi (by decide +kernel) rfl ?_
  refine QW.iload_n (i := 1) (k := 1) (by decide +kernel) rfl rfl ?_
  refine QW.callS (idx := 495) (as := [.ref (30007 + i), .int (qi k)]) (rest := []) (M2 := mJStringLatin1_charAt) (P1 := qcl (d + 2) mJString_charAt 12 15 [.val (.ref (30001 + i)), .val (.int (qi k))] [] P) (by decide +kernel) eJL_charAt kJ_620 sJL_charAt (by show qnp _ = some 2; decide +kernel) rfl rfl (Nat.le_of_ble_eq_true rfl) (cJL_charAt hi hk (qcl_i ?_)) (fun v h' q => q.1 v rfl) (fun a h' q => q.2 a rfl)
  exact QW.iret (by decide +kernel) rfl (sc_ch i hi k hk).2 kk
/-- is x one of the seven signs -/
def sgn (x : Int32) : Prop := ∃ k, k < 7 ∧ (qsw.getD 0 []).getD k 0 = x
theorem cJL_canEncode {n : Nat} (hn : n < 65536) (k : P (.inl (some (.int (if n < 256 then 1 else 0))), h)) : QW d mJStringLatin1_canEncode 0 (qen 1 [.int (qi n)]) [] h P := by
  show QW d mJStringLatin1_canEncode 0 [.val (.int (qi n))] [] h P
  refine QW.iload_n (i := 0) (k := 0) (by decide +kernel) rfl rfl ?_
  refine QW.if_lt (tgt := 15) (off := 14) (by decide +kernel) (by decide) (fun z => absurd z (qi_p (by omega))) (fun _ => ?_)
  refine QW.iload_n (i := 0) (k := 0) (by decide +kernel) rfl rfl ?_
  refine QW.sipush (n := 255) (v := 255) (by decide +kernel) (by decide) ?_
  refine QW.icmp_gt (tgt := 15) (off := 7) (by decide +kernel) (by decide) (fun z => ?_) (fun z => ?_)
  · have : 255 < n := (qi_lt (a := 255) (by omega) (by omega)).mp z
    refine QW.iconst (n := 0) (v := 0) (by decide +kernel) (by decide) ?_
    rw [if_neg (by omega)] at k
    exact QW.iret (by decide +kernel) rfl rfl k
  · have : ¬ 255 < n := fun q => z ((qi_lt (a := 255) (by omega) (by omega)).mpr q)
    refine QW.iconst (n := 1) (v := 1) (by decide +kernel) (by decide) ?_
    refine QW.goto (tgt := 16) (off := 4) (by decide +kernel) (by decide) ?_
    rw [if_pos (by omega)] at k
    exact QW.iret (by decide +kernel) rfl rfl k
theorem sc_b : ∀ n, n < 256 → ∀ j, j < 7 → ((qsw.getD 0 []).getD j 0 = (qi n).toInt8.toInt32 ↔ (qsw.getD 0 []).getD j 0 = qi n) := by decide +kernel
theorem cJL_indexOfChar {n : Nat} (hn : n < 256) (k : ∀ r : Int32, (0 ≤ r ↔ sgn (qi n)) → P (.inl (some (.int r)), h)) : QW d mJStringLatin1_indexOfChar 0 (qen 6 [.ref 30007, .int (qi n), .int 0, .int (qi 7)]) [] h P := by
  show QW d mJStringLatin1_indexOfChar 0 [.val (.ref 30007), .val (.int (qi n)), .val (.int 0), .val (.int (qi 7)), .unset, .unset] [] h P
  refine QW.iload_n (i := 1) (k := 1) (by decide +kernel) rfl rfl ?_
  refine QW.i2b (by decide +kernel) ?_
  refine QW.istore (i := 4) (by decide +kernel) rfl ?_
  refine QW.iload_n (i := 2) (k := 2) (by decide +kernel) rfl rfl ?_
  refine QW.istore (i := 5) (by decide +kernel) rfl ?_
  have lp : ∀ f j : Nat, j + f = 7 → (∀ q, q < j → ¬ (qsw.getD 0 []).getD q 0 = qi n) → QW d mJStringLatin1_indexOfChar 7 [.val (.ref 30007), .val (.int (qi n)), .val (.int 0), .val (.int (qi 7)), .val (.int (qi n).toInt8.toInt32), .val (.int (qi j))] [] h P := by
    intro f
    induction f with
    | zero =>
      intro j hj hno
      obtain rfl : j = 7 := by omega
      refine QW.iload (i := 5) (by decide +kernel) rfl ?_
      refine QW.iload_n (i := 3) (k := 3) (by decide +kernel) rfl rfl ?_
      refine QW.icmp_ge (tgt := 31) (off := 21) (by decide +kernel) (by decide) (fun _ => ?_) (fun z => absurd (by decide) z)
      refine QW.iconst (n := -1) (v := -1) (by decide +kernel) (by decide) ?_
      refine QW.iret (by decide +kernel) rfl rfl (k (-1) ⟨fun z => absurd z (by decide), fun ⟨q, h1, h2⟩ => absurd h2 (hno q h1)⟩)
    | succ f ih =>
      intro j hj hno
      refine QW.iload (i := 5) (by decide +kernel) rfl ?_
      refine QW.iload_n (i := 3) (k := 3) (by decide +kernel) rfl rfl ?_
      refine QW.icmp_ge (tgt := 31) (off := 21) (by decide +kernel) (by decide) (fun z => absurd ((qi_le (by omega) (by omega)).mp z) (by omega)) (fun _ => ?_)
      refine QW.aload_n (i := 0) (k := 0) (by decide +kernel) rfl rfl ?_
      refine QW.iload (i := 5) (by decide +kernel) rfl ?_
      have hN : (qi j).toNatClampNeg = j := qi_N (by omega)
      refine QW.sbyt (i := 0) (by omega) (by decide +kernel) (qi_p (by omega)) (by rw [hN]; show j < 7; omega) ?_
      rw [hN]
      refine QW.iload (i := 4) (by decide +kernel) rfl ?_
      refine QW.icmp_ne (tgt := 25) (off := 6) (by decide +kernel) (by decide) (fun z => ?_) (fun z => ?_)
      · refine MW.iinc (n := 1) (c := 1) (q := 5) (by decide +kernel) (by decide) rfl rfl ?_
        refine QW.goto (tgt := 7) (off := -21) (by decide +kernel) (by decide) ?_
        have := ih (j + 1) (by omega) (fun q hq => by
          by_cases e : q = j
          · subst e
            exact fun w => z ((sc_b n hn q (by omega)).mpr w)
          · exact hno q (by omega))
        rw [← qi_1 j] at this
        exact this
      · refine QW.iload (i := 5) (by decide +kernel) rfl ?_
        exact QW.iret (by decide +kernel) rfl rfl (k _ ⟨fun _ => ⟨j, by omega, (sc_b n hn j (by omega)).mp z⟩, fun _ => (qi_le (a := 0) (by omega) (by omega)).mpr (Nat.zero_le _)⟩)
  exact lp 7 0 rfl (fun q hq => absurd hq (by omega))
theorem cJL_indexOf {n : Nat} (hn : n < 65536) (k : ∀ r : Int32, (0 ≤ r ↔ sgn (qi n)) → P (.inl (some (.int r)), h)) : QW (d + 1) mJStringLatin1_indexOf 0 (qen 4 [.ref 30007, .int (qi n), .int 0, .int (qi 7)]) [] h P := by
  show QW (d + 1) mJStringLatin1_indexOf 0 [.val (.ref 30007), .val (.int (qi n)), .val (.int 0), .val (.int (qi 7))] [] h P
  refine QW.iload_n (i := 1) (k := 1) (by decide +kernel) rfl rfl ?_
  refine QW.callS (idx := 88) (as := [.int (qi n)]) (rest := []) (M2 := mJStringLatin1_canEncode) (P1 := qcl d mJStringLatin1_indexOf 1 4 [.val (.ref 30007), .val (.int (qi n)), .val (.int 0), .val (.int (qi 7))] [] P) (by decide +kernel) eJL_canEncode kJ_675 sJL_canEncode (by show qnp _ = some 1; decide +kernel) rfl rfl (Nat.le_of_ble_eq_true rfl) (cJL_canEncode hn (qcl_i ?_)) (fun v h' q => q.1 v rfl) (fun a h' q => q.2 a rfl)
  refine QW.if_ne (tgt := 9) (off := 5) (by decide +kernel) (by decide) (fun z => ?_) (fun z => ?_)
  · have h256 : n < 256 := by
      apply Classical.byContradiction
      intro q
      rw [if_neg q] at z
      exact z rfl
    refine QW.iload_n (i := 2) (k := 2) (by decide +kernel) rfl rfl ?_
    refine QW.iconst (n := 0) (v := 0) (by decide +kernel) (by decide) ?_
    refine QW.mmax (idx := 92) (by decide +kernel) kJ_678 rfl (Nat.le_of_ble_eq_true rfl) ?_
    refine QW.istore_n (i := 2) (k := 2) (by decide +kernel) rfl rfl ?_
    refine QW.iload_n (i := 3) (k := 3) (by decide +kernel) rfl rfl ?_
    refine QW.aload_n (i := 0) (k := 0) (by decide +kernel) rfl rfl ?_
    refine QW.slen (i := 0) (by omega) (by decide +kernel) ?_
    refine QW.mmin (idx := 38) (by decide +kernel) kJ_681 rfl (Nat.le_of_ble_eq_true rfl) ?_
    refine QW.istore_n (i := 3) (k := 3) (by decide +kernel) rfl rfl ?_
    show QW (d + 1) mJStringLatin1_indexOf 22 [.val (.ref 30007), .val (.int (qi n)), .val (.int 0), .val (.int (qi 7))] [] h P
    refine QW.iload_n (i := 2) (k := 2) (by decide +kernel) rfl rfl ?_
    refine QW.iload_n (i := 3) (k := 3) (by decide +kernel) rfl rfl ?_
    refine QW.icmp_lt (tgt := 29) (off := 5) (by decide +kernel) (by decide) (fun _ => ?_) (fun z => absurd (by decide) z)
    refine QW.aload_n (i := 0) (k := 0) (by decide +kernel) rfl rfl ?_
    refine QW.iload_n (i := 1) (k := 1) (by decide +kernel) rfl rfl ?_
    refine QW.iload_n (i := 2) (k := 2) (by decide +kernel) rfl rfl ?_
    refine QW.iload_n (i := 3) (k := 3) (by decide +kernel) rfl rfl ?_
    refine QW.callS (idx := 95) (as := [.ref 30007, .int (qi n), .int 0, .int (qi 7)]) (rest := []) (M2 := mJStringLatin1_indexOfChar) (P1 := qcl d mJStringLatin1_indexOf 33 36 [.val (.ref 30007), .val (.int (qi n)), .val (.int 0), .val (.int (qi 7))] [] P) (by decide +kernel) eJL_indexOfChar kJ_684 sJL_indexOfChar (by show qnp _ = some 4; decide +kernel) rfl rfl (Nat.le_of_ble_eq_true rfl) (cJL_indexOfChar h256 (fun r hr => qcl_i ?_)) (fun v h' q => q.1 v rfl) (fun a h' q => q.2 a rfl)
    exact QW.iret (by decide +kernel) rfl rfl (k r hr)
  · have h256 : ¬ n < 256 := by
      intro q
      rw [if_pos q] at z
      exact absurd z (by decide)
    refine QW.iconst (n := -1) (v := -1) (by decide +kernel) (by decide) ?_
    refine QW.iret (by decide +kernel) rfl rfl (k (-1) ⟨fun q => absurd q (by decide), fun ⟨j, h1, h2⟩ => ?_⟩)
    exfalso
    have hb : ∀ j, j < 7 → (qsw.getD 0 []).getD j 0 < 256 := by decide +kernel
    have := hb j h1
    rw [h2] at this
    exact h256 ((qi_lt (b := 256) (by omega) (by omega)).mp this)
theorem cJS_indexOf2 {n : Nat} (hn : n < 65536) (k : ∀ r : Int32, (0 ≤ r ↔ sgn (qi n)) → P (.inl (some (.int r)), h)) : QW (d + 2) mJString_indexOf2 0 (qen 3 [.ref 30001, .int (qi n), .int 0]) [] h P := by
  show QW (d + 2) mJString_indexOf2 0 [.val (.ref 30001), .val (.int (qi n)), .val (.int 0)] [] h P
  refine QW.aload_n (i := 0) (k := 0) (by decide +kernel) rfl rfl ?_
  refine QW.callVS (i := 0) (idx := 492) (as := []) (rest := []) (M2 := mJString_isLatin1) (P1 := qcl (d + 1) mJString_indexOf2 1 4 [.val (.ref 30001), .val (.int (qi n)), .val (.int 0)] [] P) (by omega) (by decide +kernel) eJS_isLatin1 kJ_616 iJS_isLatin1 vJS_isLatin1 (by decide +kernel) rfl rfl rfl (Nat.le_of_ble_eq_true rfl) (cJS_isLatin1 (i := 0) (by omega) (qcl_i ?_)) (fun v h' q => q.1 v rfl) (fun a h' q => q.2 a rfl)
  refine QW.if_eq (tgt := 23) (off := 19) (by decide +kernel) (by decide) (fun z => absurd z (by decide)) (fun _ => ?_)
  refine QW.aload_n (i := 0) (k := 0) (by decide +kernel) rfl rfl ?_
  refine QW.sval (i := 0) (by omega) (by decide +kernel) rfl ?_
  refine QW.iload_n (i := 1) (k := 1) (by decide +kernel) rfl rfl ?_
  refine QW.iload_n (i := 2) (k := 2) (by decide +kernel) rfl rfl ?_
  refine QW.aload_n (i := 0) (k := 0) (by decide +kernel) rfl rfl ?_
  refine QW.callVS (i := 0) (idx := 505) (as := []) (rest := [.int 0, .int (qi n), .ref 30007]) (M2 := mJString_length) (P1 := qcl (d + 1) mJString_indexOf2 14 17 [.val (.ref 30001), .val (.int (qi n)), .val (.int 0)] [.int 0, .int (qi n), .ref 30007] P) (by omega) (by decide +kernel) eJS_length kJ_671 iJS_length vJS_length (by decide +kernel) rfl rfl rfl (Nat.le_of_ble_eq_true rfl) (cJS_length (i := 0) (by omega) (qcl_i ?_)) (fun v h' q => q.1 v rfl) (fun a h' q => q.2 a rfl)
  refine QW.callS (idx := 637) (as := [.ref 30007, .int (qi n), .int 0, .int (qi 7)]) (rest := []) (M2 := mJStringLatin1_indexOf) (P1 := qcl (d + 1) mJString_indexOf2 17 20 [.val (.ref 30001), .val (.int (qi n)), .val (.int 0)] [] P) (by decide +kernel) eJL_indexOf kJ_672 sJL_indexOf (by show qnp _ = some 4; decide +kernel) rfl rfl (Nat.le_of_ble_eq_true rfl) (cJL_indexOf hn (fun r hr => qcl_i ?_)) (fun v h' q => q.1 v rfl) (fun a h' q => q.2 a rfl)
  refine QW.goto (tgt := 36) (off := 16) (by decide +kernel) (by decide) ?_
  exact QW.iret (by decide +kernel) rfl rfl (k r hr)
theorem cJS_indexOf {n : Nat} (hn : n < 65536) (k : ∀ r : Int32, (0 ≤ r ↔ sgn (qi n)) → P (.inl (some (.int r)), h)) : QW (d + 3) mJString_indexOf 0 (qen 2 [.ref 30001, .int (qi n)]) [] h P := by
  show QW (d + 3) mJString_indexOf 0 [.val (.ref 30001), .val (.int (qi n))] [] h P
  refine QW.aload_n (i := 0) (k := 0) (by decide +kernel) rfl rfl ?_
  refine QW.iload_n (i := 1) (k := 1) (by decide +kernel) rfl rfl ?_
  refine QW.iconst (n := 0) (v := 0) (by decide +kernel) (by decide) ?_
  refine QW.callVS (i := 0) (idx := 633) (as := [.int (qi n), .int 0]) (rest := []) (M2 := mJString_indexOf2) (P1 := qcl (d + 2) mJString_indexOf 3 6 [.val (.ref 30001), .val (.int (qi n))] [] P) (by omega) (by decide +kernel) eJS_indexOf2 kJ_667 iJS_indexOf2 vJS_indexOf2 (by show qnp _ = some 2; decide +kernel) rfl rfl rfl (Nat.le_of_ble_eq_true rfl) (cJS_indexOf2 hn (fun r hr => qcl_i ?_)) (fun v h' q => q.1 v rfl) (fun a h' q => q.2 a rfl)
  exact QW.iret (by decide +kernel) rfl rfl (k r hr)
end JDK

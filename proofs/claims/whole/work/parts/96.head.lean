theorem dLa_law_0 : decode mLa_law.2.1 0 = .ok (.new 8, 3) := by decide +kernel
theorem dLa_law_3 : decode mLa_law.2.1 3 = .ok (.dup, 1) := by decide +kernel
theorem dLa_law_4 : decode mLa_law.2.1 4 = .ok (.invokespecial 54, 3) := by decide +kernel
theorem dLa_law_7 : decode mLa_law.2.1 7 = .ok (.astore_n 1, 1) := by decide +kernel
theorem dLa_law_8 : decode mLa_law.2.1 8 = .ok (.new 55, 3) := by decide +kernel
theorem dLa_law_11 : decode mLa_law.2.1 11 = .ok (.dup, 1) := by decide +kernel
theorem dLa_law_12 : decode mLa_law.2.1 12 = .ok (.invokespecial 57, 3) := by decide +kernel
theorem dLa_law_15 : decode mLa_law.2.1 15 = .ok (.astore_n 2, 1) := by decide +kernel
theorem dLa_law_16 : decode mLa_law.2.1 16 = .ok (.iconst 1, 1) := by decide +kernel
theorem dLa_law_17 : decode mLa_law.2.1 17 = .ok (.newarray .long, 2) := by decide +kernel
theorem dLa_law_19 : decode mLa_law.2.1 19 = .ok (.astore_n 3, 1) := by decide +kernel
theorem dLa_law_20 : decode mLa_law.2.1 20 = .ok (.iconst 0, 1) := by decide +kernel
theorem dLa_law_21 : decode mLa_law.2.1 21 = .ok (.istore 4, 2) := by decide +kernel
theorem set_end {X : qH} {n : Nat} {c c' : qC} (h : X.length = n) : (X ++ [c]).set n c' = X ++ [c'] := by
  subst h
  rw [List.set_append_right _ _ (Nat.le_refl _), Nat.sub_self]
  rfl
theorem get_end {X : qH} {n : Nat} {c : qC} (h : X.length = n) : (X ++ [c])[n]? = some c := by
  subst h
  rw [List.getElem?_append_right (Nat.le_refl _), Nat.sub_self]
  rfl
theorem len_end {X : qH} {n : Nat} {c : qC} (h : X.length = n) : (X ++ [c]).length = n + 1 := by
  rw [List.length_append, h]
  rfl
set_option maxRecDepth 100000 in
theorem q_law (xs : List Int32) (hl : xs.length ≤ 2560) : QW 40 mLa_law 0 (qen 7 [.ref 0]) [] (List.replicate 13 (80, xs.map Value.int)) (fun r => r.1 = .inl (some (.int 1))) := by
  have hX : (List.replicate 13 ((80, xs.map Value.int) : qC)).length = 13 := List.length_replicate
  have hS : (List.replicate 13 ((80, xs.map Value.int) : qC))[0]? = some (80, xs.map Value.int) := rfl
  generalize List.replicate 13 ((80, xs.map Value.int) : qC) = X at hX hS ⊢
  have spl : SPL 36 X := spl_ok (d := 28) hX
  have hlA : (X ++ qhA).length = 193 := by rw [List.length_append, hX]; rfl
  have hlB : (X ++ qhA ++ qhB).length = 224 := by rw [List.length_append, hlA]; rfl
  show QW (39 + 1) mLa_law 0 [.val (.ref 0), .unset, .unset, .unset, .unset, .unset, .unset] [] X _
  refine QW.new dLa_law_0 nLa_8 (by rw [hX]; decide) ?_
  rw [hX]
  refine QW.dup dLa_law_3 rfl ?_
  refine QW.callI (M2 := mBp_init) (as := []) (P1 := fun r => r = (.inl none, X ++ qhA)) dLa_law_4 rfl rfl rfl kBp_init eBp_init lLa_54 iBp_init rfl rfl rfl (Nat.le_of_ble_eq_true rfl) (cBp_init (d := 37) (n := 14) (len_end hX) (get_end hX) (by decide) ?_) (fun v h' e => ?_) (fun b h' e => ?_)
  · rw [set_end hX, List.append_assoc]
    rfl
  · cases e
    refine QW.astore_n (ls' := [.val (.ref 0), .val (.ref 13), .unset, .unset, .unset, .unset, .unset]) dLa_law_7 rfl rfl ?_
    refine QW.new dLa_law_8 nLa_55 (by rw [hlA]; decide) ?_
    rw [hlA]
    refine QW.dup dLa_law_11 rfl ?_
    refine QW.callI (M2 := mMo_init) (as := []) (P1 := fun r => r = (.inl none, X ++ qhA ++ qhB)) dLa_law_12 rfl rfl rfl kMo_init eMo_init lLa_57 iMo_init rfl rfl rfl (Nat.le_of_ble_eq_true rfl) (cMo_init (d := 39) (n := 194) (len_end hlA) (get_end hlA) (by decide) ?_) (fun v h' e => ?_) (fun b h' e => ?_)
    · rw [set_end hlA, List.append_assoc]
      rfl
    · cases e
      refine QW.astore_n (ls' := [.val (.ref 0), .val (.ref 13), .val (.ref 193), .unset, .unset, .unset, .unset]) dLa_law_15 rfl rfl ?_
      refine QW.iconst (v := 1) dLa_law_16 (by decide) ?_
      refine QW.newa (t := 67) dLa_law_17 rfl (by decide) (by decide) q_ac_long (by decide) (N := 1) (by decide) (by decide) (by rw [hlB]; decide) ?_
      rw [hlB]
      refine QW.astore_n (ls' := [.val (.ref 0), .val (.ref 13), .val (.ref 193), .val (.ref 224), .unset, .unset, .unset]) dLa_law_19 rfl rfl ?_
      refine QW.iconst (v := 0) dLa_law_20 (by decide) ?_
      refine QW.istore (ls' := lLa_law_23 (qi (5 * 0)) .unset .unset) dLa_law_21 rfl ?_
      refine QW.hq (h' := hpo X qm0 false 0 []) ?_ ?_
      · unfold hpo
        rw [qh_0]
        first | (simp only [List.append_assoc]; rfl) | (simp only [List.append_assoc]; done)
      · exact q_loop hX hS hl spl 513 0 qm0 false 0 [] .unset .unset (by omega) (Or.inl rfl) (Or.inl rfl) qI_0 (Nat.zero_le _)
    · cases e
  · cases e

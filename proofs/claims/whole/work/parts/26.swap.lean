section BLK
variable {d : Nat} {P : qE → Prop} {X : qH} {mem : Nat → Nat → Int32} {sw : Bool} {o : Int64} {e : List Nat}
theorem dBp_run_0 : decode mBp_run.2.1 0 = .ok (.aload_n 0, 1) := by decide +kernel
theorem dBp_run_1 : decode mBp_run.2.1 1 = .ok (.aload_n 0, 1) := by decide +kernel
theorem dBp_run_2 : decode mBp_run.2.1 2 = .ok (.iload_n 1, 1) := by decide +kernel
theorem dBp_run_3 : decode mBp_run.2.1 3 = .ok (.invokevirtual 159, 3) := by decide +kernel
theorem dBp_run_6 : decode mBp_run.2.1 6 = .ok (.invokevirtual 163, 3) := by decide +kernel
theorem dBp_run_9 : decode mBp_run.2.1 9 = .ok (.ifCond .ne 13, 3) := by decide +kernel
theorem dBp_run_12 : decode mBp_run.2.1 12 = .ok (.new 167, 3) := by decide +kernel
theorem dBp_run_15 : decode mBp_run.2.1 15 = .ok (.dup, 1) := by decide +kernel
theorem dBp_run_16 : decode mBp_run.2.1 16 = .ok (.ldc 169, 2) := by decide +kernel
theorem dBp_run_18 : decode mBp_run.2.1 18 = .ok (.invokespecial 171, 3) := by decide +kernel
theorem dBp_run_21 : decode mBp_run.2.1 21 = .ok (.athrow, 1) := by decide +kernel
theorem dBp_run_22 : decode mBp_run.2.1 22 = .ok (.aload_n 0, 1) := by decide +kernel
theorem dBp_run_23 : decode mBp_run.2.1 23 = .ok (.getfield 54, 3) := by decide +kernel
theorem dBp_run_26 : decode mBp_run.2.1 26 = .ok (.astore_n 2, 1) := by decide +kernel
theorem dBp_run_27 : decode mBp_run.2.1 27 = .ok (.aload_n 0, 1) := by decide +kernel
theorem dBp_run_28 : decode mBp_run.2.1 28 = .ok (.aload_n 0, 1) := by decide +kernel
theorem dBp_run_29 : decode mBp_run.2.1 29 = .ok (.getfield 58, 3) := by decide +kernel
theorem dBp_run_32 : decode mBp_run.2.1 32 = .ok (.putfield 54, 3) := by decide +kernel
theorem dBp_run_35 : decode mBp_run.2.1 35 = .ok (.aload_n 0, 1) := by decide +kernel
theorem dBp_run_36 : decode mBp_run.2.1 36 = .ok (.aload_n 2, 1) := by decide +kernel
theorem dBp_run_37 : decode mBp_run.2.1 37 = .ok (.putfield 58, 3) := by decide +kernel
theorem dBp_run_40 : decode mBp_run.2.1 40 = .ok (.aload_n 0, 1) := by decide +kernel
theorem dBp_run_41 : decode mBp_run.2.1 41 = .ok (.getfield 54, 3) := by decide +kernel
theorem dBp_run_44 : decode mBp_run.2.1 44 = .ok (.getfield 172, 3) := by decide +kernel
theorem dBp_run_47 : decode mBp_run.2.1 47 = .ok (.ireturn, 1) := by decide +kernel
def lBp_run_6 (a1 : Int32) : List Slot := [.val (.ref 13), .val (.int a1), .unset]
def lBp_run_9 (a1 : Int32) : List Slot := [.val (.ref 13), .val (.int a1), .unset]
def lBp_run_22 (a1 : Int32) : List Slot := [.val (.ref 13), .val (.int a1), .unset]
theorem bBp_run_0 {a1 : Int32} (hX : X.length = 13) (k1 : QW d mBp_questionAt 0 (qen 2 [.ref 13, .int a1]) [] (hpo X mem sw o e) (qcl d mBp_run 3 6 (lBp_run_6 a1) [.ref 13] P)) : QW (d + 1) mBp_run 0 (qen 3 [.ref 13, .int a1]) [] (hpo X mem sw o e) P := by
  show QW (d + 1) mBp_run 0 [.val (.ref 13), .val (.int a1), .unset] [] (hpo X mem sw o e) P
  refine QW.aload_n dBp_run_0 rfl rfl ?_
  refine QW.aload_n dBp_run_1 rfl rfl ?_
  refine QW.iload_n dBp_run_2 rfl rfl ?_
  exact MW.calV (as := [.int a1]) (rest := [.ref 13]) hX dBp_run_3 eBp_questionAt lBp_159 iBp_questionAt vBp_questionAt rfl rfl rfl rfl rfl rfl (Nat.le_of_ble_eq_true rfl) rfl k1
theorem bBp_run_6 {a1 : Int32} {q1 : Nat} (hX : X.length = 13) (hq1 : kQu q1) (k1 : QW d mBp_answerInto 0 (qen 3 [.ref 13, .ref q1]) [] (hpo X mem sw o e) (qcl d mBp_run 6 9 (lBp_run_9 a1) [] P)) : QW (d + 1) mBp_run 6 (lBp_run_6 a1) [.ref q1, .ref 13] (hpo X mem sw o e) P := by
  show QW (d + 1) mBp_run 6 [.val (.ref 13), .val (.int a1), .unset] [.ref q1, .ref 13] (hpo X mem sw o e) P
  exact MW.calV (as := [.ref q1]) (rest := []) hX dBp_run_6 eBp_answerInto lBp_163 iBp_answerInto vBp_answerInto rfl rfl rfl rfl rfl rfl (Nat.le_of_ble_eq_true rfl) rfl k1
theorem bBp_run_9 {a1 : Int32} {s0 : Int32} (hX : X.length = 13) (k1 : (¬ s0 = 0) → QW d mBp_run 22 (lBp_run_22 a1) [] (hpo X mem sw o e) P) (c2 : e.length < 10000) (k3 : (s0 = 0) → P (.inr (225 + e.length), hpo X mem sw o (e ++ [22]))) : QW d mBp_run 9 (lBp_run_9 a1) [.int s0] (hpo X mem sw o e) P := by
  show QW d mBp_run 9 [.val (.ref 13), .val (.int a1), .unset] [.int s0] (hpo X mem sw o e) P
  refine QW.if_ne (tgt := 22) dBp_run_9 (by decide) (fun z0 => ?_) (fun z0 => ?_)
  · exact (k1 z0)
  · exact MW.thr hX tBp_169_171 dBp_run_12 dBp_run_15 dBp_run_16 dBp_run_18 dBp_run_21 rfl c2 rfl (k3 z0)
end BLK
def nosw (l : List (Nat × List (Option Nat))) : Bool := l.all fun s => s.2.all fun v => !(v == some 161) && !(v == some 164)
theorem slv_sw (m : Nat → Int32) (sw sw' : Bool) : ∀ (l : List (Option Nat)) (b : Nat), (l.all fun v => !(v == some 161) && !(v == some 164)) = true → slv m sw b l = slv m sw' b l
  | [], _, _ => rfl
  | none :: r, b, h => by
    rw [List.all_cons, Bool.and_eq_true] at h
    show Value.int (m b) :: _ = Value.int (m b) :: _
    rw [slv_sw m sw sw' r (b + 1) h.2]
  | some i :: r, b, h => by
    rw [List.all_cons, Bool.and_eq_true] at h
    have h1 : i ≠ 161 ∧ i ≠ 164 := by
      have := h.1
      simp at this
      exact this
    show Value.ref _ :: _ = Value.ref _ :: _
    rw [slv_sw m sw sw' r (b + 1) h.2, swp_ne h1.1 h1.2, swp_ne h1.1 h1.2]
theorem sce_sw (mem : Nat → Nat → Int32) (sw sw' : Bool) : ∀ (l : List (Nat × List (Option Nat))) (b : Nat), nosw l = true → sce mem sw b l = sce mem sw' b l
  | [], _, _ => rfl
  | s :: r, b, h => by
    unfold nosw at h
    rw [List.all_cons, Bool.and_eq_true] at h
    show (s.1, slv (mem b) sw 0 s.2) :: _ = (s.1, slv (mem b) sw' 0 s.2) :: _
    rw [slv_sw _ sw sw' s.2 0 h.1, sce_sw mem sw sw' r (b + 1) h.2]
def shB : List (Option Nat) := [some 14, some 28, some 30, some 35, none, none, some 156, some 161, some 164, some 167, some 170, some 180, some 190]
theorem shp_cons : shp = (0, shB) :: shp.tail := rfl
theorem nosw_tail : nosw shp.tail = true := by decide +kernel
/-- answer and result change places -/
theorem hpo_swap {X : qH} {mem : Nat → Nat → Int32} {sw : Bool} {o : Int64} {e : List Nat} (hX : X.length = 13) : ((hpo X mem sw o e).set 13 (0, (slv (mem 13) sw 0 shB).set 7 (.ref (swp sw 164)))).set 13 (0, ((slv (mem 13) sw 0 shB).set 7 (.ref (swp sw 164))).set 8 (.ref (swp sw 161))) = hpo X mem (!sw) o e := by
  rw [List.set_set]
  unfold hpo
  rw [List.set_append_right _ _ (by omega), hX, shp_cons]
  show X ++ ((0, ((slv (mem 13) sw 0 shB).set 7 (.ref (swp sw 164))).set 8 (.ref (swp sw 161))) :: (sce mem sw (13 + 1) shp.tail ++ _)) = X ++ ((0, slv (mem 13) (!sw) 0 shB) :: (sce mem (!sw) (13 + 1) shp.tail ++ _))
  rw [sce_sw mem sw (!sw) shp.tail _ nosw_tail]
  have e1 : ((slv (mem 13) sw 0 shB).set 7 (.ref (swp sw 164))).set 8 (.ref (swp sw 161)) = slv (mem 13) (!sw) 0 shB := by cases sw <;> rfl
  rw [e1]
theorem bBp_run_22 {d : Nat} {P : qE → Prop} {X : qH} {mem : Nat → Nat → Int32} {sw : Bool} {o : Int64} {e : List Nat} {a1 : Int32} (hX : X.length = 13) (k : P (.inl (some (.int (mem (swp sw 164) 1))), hpo X mem (!sw) o e)) : QW d mBp_run 22 (lBp_run_22 a1) [] (hpo X mem sw o e) P := by
  show QW d mBp_run 22 [.val (.ref 13), .val (.int a1), .unset] [] (hpo X mem sw o e) P
  have g0 : (hpo X mem sw o e)[13]? = some (0, slv (mem 13) sw 0 shB) := sh_get (s := (0, shB)) hX rfl
  refine QW.aload_n dBp_run_22 rfl rfl ?_
  refine MW.getr (r' := swp sw 161) hX dBp_run_23 fBp_54 rfl rfl rfl ?_
  refine QW.astore_n (ls' := [.val (.ref 13), .val (.int a1), .val (.ref (swp sw 161))]) dBp_run_26 rfl rfl ?_
  refine QW.aload_n dBp_run_27 rfl rfl ?_
  refine QW.aload_n dBp_run_28 rfl rfl ?_
  refine MW.getr (r' := swp sw 164) hX dBp_run_29 fBp_58 rfl rfl rfl ?_
  refine QW.putf dBp_run_32 fBp_54 g0 (by rw [slv_len]; rfl) (fun _ => rfl) (fun _ => rfl) ?_
  refine QW.aload_n dBp_run_35 rfl rfl ?_
  refine QW.aload_n dBp_run_36 rfl rfl ?_
  refine QW.putf dBp_run_37 fBp_58 (q_gs g0) (by rw [List.length_set, slv_len]; rfl) (fun _ => rfl) (fun _ => rfl) ?_
  rw [hpo_swap hX]
  refine QW.aload_n dBp_run_40 rfl rfl ?_
  refine MW.getr (r' := swp sw 164) hX dBp_run_41 fBp_54 rfl rfl (by cases sw <;> rfl) ?_
  refine MW.geti hX dBp_run_44 fBp_172 (kBag_0 kBag_sw164) rfl ?_
  exact QW.iret dBp_run_47 rfl rfl k
